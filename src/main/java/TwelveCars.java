/**
 * A great wheel with twelve cars that must stay even while people get in and out at its foot.
 *
 * <p>The document numbers what each call promises. Everything is exact: how far the wheel is out of
 * true is held as whole numbers beside whole multiples of the root of three.
 */
public final class TwelveCars {
    public static final int BAD = -1, NOT = -2, FULL = -3, NONE = -4, NULL = -11, CAST = -12, INDEX = -13, SIZE = -14;

    private static final int CARS = 12;
    private static final int MOST_PEOPLE = 10;
    private static final int MOST_WEIGHT = 99;
    private static final int MOST_SAND = 99;
    private static final int MOST_LIMIT = 999;
    private static final int LAST_MINUTE = 999;
    private static final int MOST_TURNS = 60;
    private static final int MOST_SLIP = 9;
    private static final int MOST_SLIPPING = 8;
    private static final int MOST_IN_SET = 4;
    private static final int SHEETS = 4;
    private static final int LANES = 3;
    private static final int MOST_ITEMS = 24;
    /** Told things that may be below 0 have their refusals this much lower. */
    private static final int FAR_BELOW = 100000000;

    private static final int ANY_ORDER = 0, IN_ORDER = 1, TOGETHER = 2;

    private final Wheel wheel;
    private final Wheel kept;
    private final Tape tape;
    private final AllIn allIn;
    private final AllOut allOut;
    private final Slips slips;
    private final Balance trial;
    private final Sheet[] sheets;
    private final int[] poured;
    private boolean hasImage;

    public TwelveCars() {
        wheel = new Wheel();
        kept = new Wheel();
        tape = new Tape();
        allIn = new AllIn(wheel);
        allOut = new AllOut(wheel);
        slips = new Slips(wheel);
        trial = new Balance();
        sheets = new Sheet[SHEETS];
        for (int i = 0; i < SHEETS; i++) {
            sheets[i] = new Sheet();
        }
        poured = new int[CARS];
        hasImage = false;
    }

    // ---- 1 people, the wheel

    public int person(int kind, int weight) {
        if (kind < 0 || kind >= Wheel.KINDS || weight < 1 || weight > MOST_WEIGHT) {
            return BAD;
        }
        if (wheel.people >= MOST_PEOPLE) {
            return FULL;
        }
        return wheel.addOne(kind, weight);
    }

    public int told(int person, int what) {
        if (!wheel.has(person)) {
            return BAD;
        }
        switch (what) {
            case 0:
                return wheel.kinds[person];
            case 1:
                return wheel.weights[person];
            case 2:
                return wheel.places[person];
            case 3:
                return wheel.places[person] == Wheel.WAITS ? NONE : wheel.since[person];
            default:
                return BAD;
        }
    }

    public int car(int car, int what) {
        if (car < 0 || car >= CARS) {
            return BAD;
        }
        int riders = wheel.whoIsAt(car);
        switch (what) {
            case 0:
                return wheel.loadOf(car);
            case 1:
                return wheel.seatsOf(riders);
            case 2:
                return wheel.sands[car];
            case 3:
                return riders;
            default:
                return BAD;
        }
    }

    public int limit(int v) {
        if (v < 0 || v > MOST_LIMIT) {
            return BAD;
        }
        wheel.weighAll(trial);
        if (!trial.isEvenWithin(v)) {
            return NOT;
        }
        int before = wheel.limit;
        wheel.limit = v;
        return before;
    }

    public int out(int what) {
        wheel.weighAll(trial);
        switch (what) {
            case 0:
                return trial.p;
            case 1:
                return trial.q;
            case 2:
                return trial.s;
            case 3:
                return trial.t;
            case 4:
                return (int) trial.wholePart();
            case 5:
                return (int) trial.rootPart();
            default:
                return BAD - FAR_BELOW;
        }
    }

    public int type(long w, int n) {
        if (n < 1 || n > 8) {
            return BAD;
        }
        for (int i = 0; i < n; i++) {
            if (!Tape.isTypable(byteOf(w, i))) {
                return BAD;
            }
        }
        if (tape.length + n > Tape.MOST_BYTES) {
            return FULL;
        }
        for (int i = n - 1; i >= 0; i--) {
            tape.append(byteOf(w, i));
        }
        return tape.length;
    }

    public int people() {
        int found = tape.readPeople();
        tape.length = 0;
        if (found < 0) {
            return found;
        }
        wheel.weighSand(trial);
        if (!trial.isEvenWithin(wheel.limit)) {
            return NOT;
        }
        wheel.people = 0;
        for (int i = 0; i < found; i++) {
            wheel.addOne(tape.letters[i], tape.numbers[i]);
        }
        return found;
    }

    public int evening() {
        int found = tape.readEvening();
        tape.length = 0;
        for (int i = 0; i < found; i++) {
            if (!happens(tape.letters[i], tape.numbers[i])) {
                return i;
            }
        }
        return found;
    }

    public int count(int what) {
        switch (what) {
            case 0:
                return wheel.people;
            case 1:
                return wheel.minute;
            case 2:
                return wheel.foot();
            case 3:
                return wheel.whoIsAt(Wheel.WAITS);
            case 4:
                return wheel.whoRides();
            case 5:
                return wheel.whoIsAt(Wheel.GONE);
            case 6:
                return wheel.sandTogether();
            default:
                return BAD;
        }
    }

    // ---- 2 what happens

    public int board(int person) {
        if (!wheel.waits(person)) {
            return BAD;
        }
        if (!wheel.mayGetIn(person, trial)) {
            return NOT;
        }
        wheel.getIn(person);
        return wheel.seatsOf(wheel.whoIsAt(wheel.foot()));
    }

    public int leave(int person) {
        if (!wheel.ridesAtFoot(person)) {
            return BAD;
        }
        if (!wheel.mayGetOut(person, trial)) {
            return NOT;
        }
        wheel.getOut(person);
        return wheel.minute - wheel.since[person];
    }

    public int sand(int v) {
        if (v < 0 || v > MOST_SAND) {
            return BAD;
        }
        if (!wheel.mayHaveSand(v, trial)) {
            return NOT;
        }
        int foot = wheel.foot();
        int before = wheel.sands[foot];
        wheel.sands[foot] = v;
        return before;
    }

    public int turn(int n) {
        if (n < 1 || n > MOST_TURNS) {
            return BAD;
        }
        if (wheel.minute + n > LAST_MINUTE) {
            return FULL;
        }
        wheel.minute += n;
        return wheel.minute;
    }

    public int may(int what) {
        if (what != 0 && what != 1) {
            return BAD;
        }
        int set = 0;
        for (int i = 0; i < wheel.people; i++) {
            boolean able = what == 0
                    ? wheel.waits(i) && wheel.mayGetIn(i, trial)
                    : wheel.ridesAtFoot(i) && wheel.mayGetOut(i, trial);
            if (able) {
                set |= 1 << i;
            }
        }
        return set;
    }

    // ---- 3 all in, all out, what is sure

    public int soonest(int set, int how) {
        if (!canBeAskedFor(set, how)) {
            return BAD;
        }
        return allIn.search(set, how) ? allIn.soonestMinute() : NONE;
    }

    public int when(int set, int how, int person) {
        if (!canBeAskedFor(set, how) || !wheel.has(person) || (set >> person & 1) == 0) {
            return BAD;
        }
        return allIn.search(set, how) ? allIn.minuteOf(person) : NONE;
    }

    public int empty() {
        return allOut.fewestMinutes();
    }

    public int least(int person, int what) {
        if (!wheel.waits(person) || what < 0 || what > 1) {
            return BAD;
        }
        int foot = wheel.foot();
        if (!wheel.fitTogether(wheel.whoIsAt(foot) | 1 << person)) {
            return NONE;
        }
        wheel.weighAll(trial);
        trial.hang(foot, wheel.weights[person]);
        for (int more = 0; more <= MOST_SAND; more++) {
            for (int car = 0; car < CARS; car++) {
                if (helpsBySand(car, more)) {
                    return what == 0 ? more : car;
                }
            }
        }
        return NONE;
    }

    public int sure(int slip) {
        if (slip < 0 || slip > MOST_SLIP) {
            return BAD;
        }
        if (Integer.bitCount(wheel.whoRides()) > MOST_SLIPPING) {
            return FULL;
        }
        slips.findWorst(slip);
        return slips.worst.isEvenWithin(wheel.limit) ? 1 : 0;
    }

    public int worst(int slip, int what) {
        if (slip < 0 || slip > MOST_SLIP || what < 0 || what > 1) {
            return BAD - FAR_BELOW;
        }
        if (Integer.bitCount(wheel.whoRides()) > MOST_SLIPPING) {
            return FULL - FAR_BELOW;
        }
        slips.findWorst(slip);
        return (int) (what == 0 ? slips.worst.wholePart() : slips.worst.rootPart());
    }

    public int image() {
        kept.become(wheel);
        hasImage = true;
        return 1;
    }

    public int restore() {
        if (!hasImage) {
            return NONE;
        }
        wheel.become(kept);
        return 1;
    }

    // ---- 4 sheets

    public int pour(int sheet, int lane, int from) {
        int refusal = refusalOfRow(sheet, lane, from, CARS);
        if (refusal != 0) {
            return refusal;
        }
        wheel.weighRiders(trial);
        int together = 0;
        for (int car = 0; car < CARS; car++) {
            int v = sheets[sheet].items[from + car];
            if (v < 0 || v > MOST_SAND) {
                return NOT;
            }
            poured[car] = v;
            together += v;
            trial.hang(car, v);
        }
        if (!trial.isEvenWithin(wheel.limit)) {
            return NOT;
        }
        System.arraycopy(poured, 0, wheel.sands, 0, CARS);
        return together;
    }

    public int film(int sheet, int lane, int from) {
        int refusal = refusalOfRow(sheet, lane, from, CARS);
        if (refusal != 0) {
            return refusal;
        }
        for (int car = 0; car < CARS; car++) {
            sheets[sheet].write(from + car, wheel.loadOf(car));
        }
        return CARS;
    }

    public int sheet(int sheet, int lane, int n) {
        if (!isSheet(sheet) || lane < 0 || lane >= LANES || n > MOST_ITEMS) {
            return BAD;
        }
        if (n < 0) {
            return SIZE;
        }
        sheets[sheet].renew(lane, n);
        return n;
    }

    public int drop(int sheet) {
        if (!isSheet(sheet)) {
            return BAD;
        }
        if (!sheets[sheet].isHeld) {
            return NULL;
        }
        sheets[sheet].isHeld = false;
        return sheets[sheet].length;
    }

    public int item(int sheet, int lane, int i, int v) {
        int refusal = refusalOfRow(sheet, lane, i, 1);
        if (refusal != 0) {
            return refusal;
        }
        sheets[sheet].write(i, v);
        return 1;
    }

    public int copy(int from, int i, int to, int j, int n) {
        if (!isSheet(from) || !isSheet(to)) {
            return BAD;
        }
        Sheet source = sheets[from];
        Sheet goal = sheets[to];
        if (!source.isHeld || !goal.isHeld) {
            return NULL;
        }
        if (source.lane != goal.lane) {
            return CAST;
        }
        if (!source.hasPart(i, n) || !goal.hasPart(j, n)) {
            return INDEX;
        }
        System.arraycopy(source.items, i, goal.items, j, n);
        return n;
    }

    // ---- what several calls share

    private static int byteOf(long w, int place) {
        return (int) (w >>> 8 * place) & 255;
    }

    private boolean happens(int letter, int number) {
        switch (letter) {
            case Tape.IN:
                return board(number) >= 0;
            case Tape.OUT:
                return leave(number) >= 0;
            case Tape.SAND:
                return sand(number) >= 0;
            default:
                return turn(1) >= 0;
        }
    }

    private boolean canBeAskedFor(int set, int how) {
        return how >= ANY_ORDER && how <= TOGETHER
                && set != 0 && Integer.bitCount(set) <= MOST_IN_SET
                && (set & ~wheel.whoIsAt(Wheel.WAITS)) == 0;
    }

    /** Whether the wheel, as it hangs in the trial, is even with so much more sand in one car. */
    private boolean helpsBySand(int car, int more) {
        if (wheel.sands[car] + more > MOST_SAND) {
            return false;
        }
        trial.hang(car, more);
        boolean even = trial.isEvenWithin(wheel.limit);
        trial.hang(car, -more);
        return even;
    }

    private static boolean isSheet(int sheet) {
        return sheet >= 0 && sheet < SHEETS;
    }

    /** 0, or why a sheet can't be taken as a row of the lane that has so many items from one on. */
    private int refusalOfRow(int sheet, int lane, int from, int n) {
        if (!isSheet(sheet) || lane < 0 || lane >= LANES) {
            return BAD;
        }
        if (!sheets[sheet].isHeld) {
            return NULL;
        }
        if (sheets[sheet].lane != lane) {
            return CAST;
        }
        return sheets[sheet].hasPart(from, n) ? 0 : INDEX;
    }

    /** How far a wheel hangs out of true: p and q R along the cosines, s and t R along the sines. */
    private static final class Balance {
        private static final int[] COSINE_WHOLE = {2, 0, 1, 0, -1, 0, -2, 0, -1, 0, 1, 0};
        private static final int[] COSINE_ROOT = {0, 1, 0, 0, 0, -1, 0, -1, 0, 0, 0, 1};
        private static final int[] SINE_WHOLE = {0, 1, 0, 2, 0, 1, 0, -1, 0, -2, 0, -1};
        private static final int[] SINE_ROOT = {0, 0, 1, 0, 1, 0, 0, 0, -1, 0, -1, 0};

        int p;
        int q;
        int s;
        int t;

        void clear() {
            p = 0;
            q = 0;
            s = 0;
            t = 0;
        }

        void become(Balance other) {
            p = other.p;
            q = other.q;
            s = other.s;
            t = other.t;
        }

        void hang(int car, int load) {
            if (car < 0 || car >= CARS) {
                return;
            }
            p += load * COSINE_WHOLE[car];
            q += load * COSINE_ROOT[car];
            s += load * SINE_WHOLE[car];
            t += load * SINE_ROOT[car];
        }

        long wholePart() {
            return (long) p * p + 3L * q * q + (long) s * s + 3L * t * t;
        }

        long rootPart() {
            return 2L * ((long) p * q + (long) s * t);
        }

        boolean isEvenWithin(int limit) {
            return !isAboveZero(wholePart() - 4L * limit * limit, rootPart());
        }

        boolean isWorseThan(Balance other) {
            return isAboveZero(wholePart() - other.wholePart(), rootPart() - other.rootPart());
        }

        /** Whether a and b R is above 0; squares keep it exact, and R being no fraction they never tie. */
        private static boolean isAboveZero(long a, long b) {
            if (a >= 0 && b >= 0) {
                return a > 0 || b > 0;
            }
            if (a <= 0 && b <= 0) {
                return false;
            }
            return a > 0 ? a * a > 3 * b * b : 3 * b * b > a * a;
        }
    }

    /** All that an image keeps: people, sand, limit, minute. */
    private static final class Wheel {
        static final int KINDS = 4;
        static final int WAITS = 12;
        static final int GONE = 13;

        private static final int CHILD = 1, GOAT = 3;
        private static final int SEATS_OF_A_CAR = 3;
        /** By kind; a goat, being below the stout, takes two as they do. */
        private static final int[] SEATS = {1, 1, 2, 2};

        final int[] kinds = new int[MOST_PEOPLE];
        final int[] weights = new int[MOST_PEOPLE];
        final int[] places = new int[MOST_PEOPLE];
        final int[] since = new int[MOST_PEOPLE];
        final int[] sands = new int[CARS];
        int people = 0;
        int minute = 0;
        int limit = 20;

        void become(Wheel other) {
            System.arraycopy(other.kinds, 0, kinds, 0, MOST_PEOPLE);
            System.arraycopy(other.weights, 0, weights, 0, MOST_PEOPLE);
            System.arraycopy(other.places, 0, places, 0, MOST_PEOPLE);
            System.arraycopy(other.since, 0, since, 0, MOST_PEOPLE);
            System.arraycopy(other.sands, 0, sands, 0, CARS);
            people = other.people;
            minute = other.minute;
            limit = other.limit;
        }

        int addOne(int kind, int weight) {
            if (people < 0 || people >= MOST_PEOPLE) {
                return FULL;
            }
            kinds[people] = kind;
            weights[people] = weight;
            places[people] = WAITS;
            since[people] = 0;
            people++;
            return people - 1;
        }

        boolean has(int person) {
            return person >= 0 && person < people;
        }

        boolean waits(int person) {
            return has(person) && places[person] == WAITS;
        }

        boolean ridesAtFoot(int person) {
            return has(person) && places[person] == foot();
        }

        int foot() {
            return minute % CARS;
        }

        int whoIsAt(int place) {
            int set = 0;
            for (int i = 0; i < people; i++) {
                if (places[i] == place) {
                    set |= 1 << i;
                }
            }
            return set;
        }

        int whoRides() {
            int set = 0;
            for (int i = 0; i < people; i++) {
                if (places[i] < CARS) {
                    set |= 1 << i;
                }
            }
            return set;
        }

        int weightOf(int set) {
            int sum = 0;
            for (int i = 0; i < people; i++) {
                if ((set >> i & 1) != 0) {
                    sum += weights[i];
                }
            }
            return sum;
        }

        int loadOf(int car) {
            return sands[car] + weightOf(whoIsAt(car));
        }

        int sandTogether() {
            int sum = 0;
            for (int car = 0; car < CARS; car++) {
                sum += sands[car];
            }
            return sum;
        }

        int seatsOf(int set) {
            int sum = 0;
            for (int i = 0; i < people; i++) {
                if ((set >> i & 1) != 0) {
                    sum += SEATS[kinds[i]];
                }
            }
            return sum;
        }

        /** Whether a car in which just these ride fits. */
        boolean fitTogether(int set) {
            int seats = 0;
            int children = 0;
            int goats = 0;
            int others = 0;
            for (int i = 0; i < people; i++) {
                if ((set >> i & 1) == 0) {
                    continue;
                }
                seats += SEATS[kinds[i]];
                if (kinds[i] == CHILD) {
                    children++;
                } else if (kinds[i] == GOAT) {
                    goats++;
                } else {
                    others++;
                }
            }
            boolean childrenRideAsTheyMay = children == 0 || others > 0 && goats == 0;
            return childrenRideAsTheyMay && seats <= SEATS_OF_A_CAR;
        }

        void weighSand(Balance into) {
            into.clear();
            for (int car = 0; car < CARS; car++) {
                into.hang(car, sands[car]);
            }
        }

        void weighRiders(Balance into) {
            into.clear();
            hangThese(whoRides(), into);
        }

        void weighAll(Balance into) {
            weighSand(into);
            hangThese(whoRides(), into);
        }

        void hangThese(int riders, Balance into) {
            for (int i = 0; i < people; i++) {
                if ((riders >> i & 1) != 0) {
                    into.hang(places[i], weights[i]);
                }
            }
        }

        boolean mayGetIn(int person, Balance scratch) {
            if (!fitTogether(whoIsAt(foot()) | 1 << person)) {
                return false;
            }
            weighAll(scratch);
            scratch.hang(foot(), weights[person]);
            return scratch.isEvenWithin(limit);
        }

        boolean mayGetOut(int person, Balance scratch) {
            if (!fitTogether(whoIsAt(foot()) & ~(1 << person))) {
                return false;
            }
            weighAll(scratch);
            scratch.hang(foot(), -weights[person]);
            return scratch.isEvenWithin(limit);
        }

        boolean mayHaveSand(int v, Balance scratch) {
            weighAll(scratch);
            scratch.hang(foot(), v - sands[foot()]);
            return scratch.isEvenWithin(limit);
        }

        void getIn(int person) {
            places[person] = foot();
            since[person] = minute;
        }

        void getOut(int person) {
            places[person] = GONE;
        }
    }

    /**
     * The search for the way by which all of a set are in soonest. A way is a row of minutes, four
     * bits each, the least number highest; with its last minute above it the least is the one sought.
     */
    private static final class AllIn {
        private static final int LAST = 11;
        private static final int ROW_BITS = 4 * MOST_IN_SET;
        private static final int NO_WAY = LAST + 1 << ROW_BITS;

        private final Wheel wheel;
        private final Balance now = new Balance();
        private int asked;
        private int how;
        private int best;

        AllIn(Wheel wheel) {
            this.wheel = wheel;
        }

        boolean search(int set, int order) {
            asked = set;
            how = order;
            best = NO_WAY;
            wheel.weighAll(now);
            goOn(0, set, 0);
            return best < NO_WAY;
        }

        int soonestMinute() {
            return best >> ROW_BITS;
        }

        int minuteOf(int person) {
            return best >> shiftOf(person) & 15;
        }

        private int shiftOf(int person) {
            int lesser = Integer.bitCount(asked & (1 << person) - 1);
            return 4 * (MOST_IN_SET - 1 - lesser);
        }

        private void goOn(int minute, int left, int row) {
            if (minute > LAST || minute > best >> ROW_BITS) {
                return;
            }
            int riders = wheel.whoIsAt((wheel.foot() + minute) % CARS);
            // All who are left come first: a way that ends now cuts off all that end later.
            int part = left;
            for (int n = 0; n < 1 << MOST_IN_SET; n++) {
                if (part == 0) {
                    break;
                }
                if (mayGoTogether(part, left) && wheel.fitTogether(riders | part)) {
                    putIn(minute, left, row, part);
                }
                part = part - 1 & left;
            }
            goOn(minute + 1, left, row);
        }

        private boolean mayGoTogether(int part, int left) {
            int behind = left & ~part;
            if (behind == 0) {
                return true;
            }
            if (how == IN_ORDER) {
                int firstBehind = behind & -behind;
                return firstBehind > part;
            }
            return how != TOGETHER;
        }

        private void putIn(int minute, int left, int row, int part) {
            int car = (wheel.foot() + minute) % CARS;
            int weight = wheel.weightOf(part);
            now.hang(car, weight);
            if (now.isEvenWithin(wheel.limit)) {
                int longer = row | rowOf(part, minute);
                if (part == left) {
                    best = Math.min(best, minute << ROW_BITS | longer);
                } else {
                    goOn(minute + 1, left & ~part, longer);
                }
            }
            now.hang(car, -weight);
        }

        private int rowOf(int part, int minute) {
            int row = 0;
            for (int i = 0; i < MOST_PEOPLE; i++) {
                if ((part >> i & 1) != 0) {
                    row |= minute << shiftOf(i);
                }
            }
            return row;
        }
    }

    /** The search for the fewest minutes by which nobody rides, over the sets who ride still. */
    private static final class AllOut {
        private static final int LAST = 23;
        private static final int UNKNOWN = 0, REACHED = 1, REFUSED = 2;

        private final Wheel wheel;
        private final Balance sandAlone = new Balance();
        private final Balance scratch = new Balance();
        private final int[] states = new int[1 << MOST_PEOPLE];

        AllOut(Wheel wheel) {
            this.wheel = wheel;
        }

        int fewestMinutes() {
            int riders = wheel.whoRides();
            for (int set = 0; set <= riders; set++) {
                states[set] = UNKNOWN;
            }
            states[riders] = REACHED;
            wheel.weighSand(sandAlone);
            for (int minute = 0; minute <= LAST; minute++) {
                stepAt((wheel.foot() + minute) % CARS, riders);
                if (states[0] == REACHED) {
                    return minute;
                }
            }
            return NONE;
        }

        /**
         * Sets that this minute reaches are gone on from in this minute, too: who gets out in two
         * steps may as well do it in one, as only the last of them is looked at then.
         */
        private void stepAt(int car, int riders) {
            int here = wheel.whoIsAt(car);
            if (here == 0) {
                return;
            }
            for (int still = riders; still > 0; still--) {
                if (states[still] == REACHED && (still & here) != 0) {
                    letOut(still, here);
                }
            }
        }

        private void letOut(int still, int here) {
            int able = still & here;
            for (int part = able; part > 0; part = part - 1 & able) {
                int rest = still & ~part;
                if (states[rest] == UNKNOWN) {
                    states[rest] = mayRide(rest, here) ? REACHED : REFUSED;
                }
            }
        }

        private boolean mayRide(int rest, int here) {
            if (!wheel.fitTogether(rest & here)) {
                return false;
            }
            scratch.become(sandAlone);
            wheel.hangThese(rest, scratch);
            return scratch.isEvenWithin(wheel.limit);
        }
    }

    /**
     * The worst that weights known to some stones only can do. The square bulges upwards along each
     * weight, so that its greatest stands where each weight is at one of its ends.
     */
    private static final class Slips {
        private final Wheel wheel;
        private final Balance sandAlone = new Balance();
        private final Balance scratch = new Balance();
        private final int[] riders = new int[MOST_PEOPLE];
        final Balance worst = new Balance();

        Slips(Wheel wheel) {
            this.wheel = wheel;
        }

        void findWorst(int slip) {
            int n = listRiders();
            wheel.weighAll(worst);
            wheel.weighSand(sandAlone);
            for (int heavy = 0; heavy < 1 << n; heavy++) {
                scratch.become(sandAlone);
                for (int i = 0; i < n; i++) {
                    int weight = wheel.weights[riders[i]];
                    int end = (heavy >> i & 1) != 0 ? weight + slip : Math.max(0, weight - slip);
                    scratch.hang(wheel.places[riders[i]], end);
                }
                if (scratch.isWorseThan(worst)) {
                    worst.become(scratch);
                }
            }
        }

        private int listRiders() {
            int set = wheel.whoRides();
            int n = 0;
            for (int i = 0; i < MOST_PEOPLE; i++) {
                if ((set >> i & 1) != 0) {
                    riders[n] = i;
                    n++;
                }
            }
            return n;
        }
    }

    /** What is typed, and what it says: letters (by their order) with numbers. */
    private static final class Tape {
        static final int MOST_BYTES = 120;
        static final int IN = 0, OUT = 1, SAND = 2;

        private static final String KIND_LETTERS = "gcsb";
        private static final String EVENING_LETTERS = "iost";
        /** More than go on a tape. */
        private static final int MOST_ENTRIES = 64;
        private static final int FIRST_FAULT = -20;
        private static final int END = -1;

        private final byte[] bytes = new byte[MOST_BYTES];
        private int at;
        int length = 0;
        final int[] letters = new int[MOST_ENTRIES];
        final int[] numbers = new int[MOST_ENTRIES];

        static boolean isTypable(int b) {
            return b >= 32 && b <= 126;
        }

        void append(int b) {
            if (length < MOST_BYTES) {
                bytes[length] = (byte) b;
                length++;
            }
        }

        /** How many, or a fault. */
        int readPeople() {
            return readEntries(KIND_LETTERS, ',', MOST_PEOPLE);
        }

        /** How many, or a fault. */
        int readEvening() {
            return readEntries(EVENING_LETTERS, ';', MOST_ENTRIES);
        }

        private int readEntries(String known, char between, int most) {
            at = 0;
            for (int n = 0; n < most; n++) {
                int fault = readLetter(known, n);
                if (fault == 0) {
                    fault = between == ',' ? readNumber(n, 1, MOST_WEIGHT) : readWhatFollows(n);
                }
                if (fault != 0) {
                    return fault;
                }
                int b = next();
                if (b == END) {
                    return n + 1;
                }
                if (b != between || n == most - 1) {
                    return faultAt(at);
                }
                at++;
            }
            return faultAt(at);
        }

        private static int faultAt(int place) {
            return FIRST_FAULT - place;
        }

        private static boolean isDigit(int b) {
            return b >= '0' && b <= '9';
        }

        /** The first byte from here on that is no blank, at which the tape then stands. */
        private int next() {
            while (at < length && bytes[at] == ' ') {
                at++;
            }
            return at < length ? bytes[at] : END;
        }

        private int readLetter(String known, int n) {
            int b = next();
            int letter = b == END ? -1 : known.indexOf((char) b);
            if (letter < 0) {
                return faultAt(at);
            }
            letters[n] = letter;
            at++;
            return 0;
        }

        private int readWhatFollows(int n) {
            switch (letters[n]) {
                case IN:
                case OUT:
                    return readDigit(n);
                case SAND:
                    return readNumber(n, 0, MOST_SAND);
                default:
                    numbers[n] = 0;
                    return 0;
            }
        }

        private int readDigit(int n) {
            int b = next();
            if (!isDigit(b)) {
                return faultAt(at);
            }
            numbers[n] = b - '0';
            at++;
            return 0;
        }

        private int readNumber(int n, int least, int most) {
            if (!isDigit(next())) {
                return faultAt(at);
            }
            int start = at;
            int value = 0;
            while (at < length && isDigit(bytes[at])) {
                // A long number is held at one more than may be, so that it can't wrap round.
                value = Math.min(10 * value + bytes[at] - '0', most + 1);
                at++;
            }
            numbers[n] = value;
            return value < least || value > most ? faultAt(start) : 0;
        }
    }

    /** A row of items, which hold what their lane can hold. */
    private static final class Sheet {
        private static final int BYTES = 0, SHORTS = 1;

        final int[] items = new int[MOST_ITEMS];
        boolean isHeld = false;
        int lane = 0;
        int length = 0;

        void renew(int newLane, int n) {
            for (int i = 0; i < MOST_ITEMS; i++) {
                items[i] = 0;
            }
            isHeld = true;
            lane = newLane;
            length = n;
        }

        boolean hasPart(int from, int n) {
            return from >= 0 && n >= 0 && from <= length && n <= length - from;
        }

        void write(int i, int v) {
            if (i < 0 || i >= length) {
                return;
            }
            if (lane == BYTES) {
                items[i] = (byte) v;
            } else if (lane == SHORTS) {
                items[i] = (short) v;
            } else {
                items[i] = v;
            }
        }
    }
}
