import java.math.BigDecimal;
import java.math.MathContext;
import java.util.ArrayList;
import java.util.Arrays;
import java.util.List;

/**
 * The document once more, as plainly as it can be told: no search is cut short, and what is even is
 * found by many digits of the root of three. The class is compared with it call by call.
 */
final class Model {
    static final int BAD = -1, NOT = -2, FULL = -3, NONE = -4, NULL = -11, CAST = -12, INDEX = -13, SIZE = -14;
    private static final int FAR = 100000000;
    private static final BigDecimal ROOT = new BigDecimal(3).sqrt(new MathContext(60));
    /** Twice the cosines as {whole, roots}; the sine of a car is the cosine of the one three before it. */
    private static final int[][] COS = {{2, 0}, {0, 1}, {1, 0}, {0, 0}, {-1, 0}, {0, -1},
        {-2, 0}, {0, -1}, {-1, 0}, {0, 0}, {1, 0}, {0, 1}};

    private static final class Rider {
        int kind;
        int weight;
        int place = 12;
        int since = NONE;

        Rider(int kind, int weight) {
            this.kind = kind;
            this.weight = weight;
        }

        Rider twin() {
            Rider r = new Rider(kind, weight);
            r.place = place;
            r.since = since;
            return r;
        }
    }

    private List<Rider> riders = new ArrayList<>();
    private int[] sands = new int[12];
    private int limit = 20;
    private int minute = 0;
    private StringBuilder tape = new StringBuilder();
    private Model kept = null;
    private final Object[] sheets = new Object[4];

    // ---- evenness

    private long[] vector() {
        long[] v = new long[4];
        for (int car = 0; car < 12; car++) {
            int load = load(car);
            v[0] += (long) load * COS[car][0];
            v[1] += (long) load * COS[car][1];
            v[2] += (long) load * COS[(car + 9) % 12][0];
            v[3] += (long) load * COS[(car + 9) % 12][1];
        }
        return v;
    }

    private static long[] square(long[] v) {
        return new long[] {v[0] * v[0] + 3 * v[1] * v[1] + v[2] * v[2] + 3 * v[3] * v[3],
            2 * (v[0] * v[1] + v[2] * v[3])};
    }

    private static int compare(long[] one, long[] two) {
        double rough = (one[0] - two[0]) + (one[1] - two[1]) * Math.sqrt(3);
        if (Math.abs(rough) > 0.01) {
            return rough > 0 ? 1 : -1;
        }
        BigDecimal a = new BigDecimal(one[0] - two[0]);
        return a.add(ROOT.multiply(new BigDecimal(one[1] - two[1]))).signum();
    }

    private boolean even() {
        return compare(square(vector()), new long[] {4L * limit * limit, 0}) <= 0;
    }

    private int load(int car) {
        int sum = sands[car];
        for (Rider r : riders) {
            sum += r.place == car ? r.weight : 0;
        }
        return sum;
    }

    private int seats(int car) {
        int sum = 0;
        for (Rider r : riders) {
            sum += r.place != car ? 0 : r.kind == 0 || r.kind == 1 ? 1 : 2;
        }
        return sum;
    }

    private boolean fits(int car) {
        if (seats(car) > 3) {
            return false;
        }
        for (Rider r : riders) {
            if (r.place == car && r.kind == 1 && !anyAt(car, 0, 2, 3)) {
                return false;
            }
            if (r.place == car && r.kind == 3 && anyAt(car, 1)) {
                return false;
            }
        }
        return true;
    }

    private boolean anyAt(int car, int... kinds) {
        for (Rider r : riders) {
            for (int kind : kinds) {
                if (r.place == car && r.kind == kind) {
                    return true;
                }
            }
        }
        return false;
    }

    private int foot() {
        return minute % 12;
    }

    private int setAt(int low, int high) {
        int set = 0;
        for (int i = 0; i < riders.size(); i++) {
            int place = riders.get(i).place;
            set |= place >= low && place <= high ? 1 << i : 0;
        }
        return set;
    }

    private boolean isOne(int person) {
        return person >= 0 && person < riders.size();
    }

    // ---- 1

    int person(int kind, int weight) {
        if (kind < 0 || kind > 3 || weight < 1 || weight > 99) {
            return BAD;
        }
        if (riders.size() == 10) {
            return FULL;
        }
        riders.add(new Rider(kind, weight));
        return riders.size() - 1;
    }

    int told(int person, int what) {
        if (!isOne(person) || what < 0 || what > 3) {
            return BAD;
        }
        Rider r = riders.get(person);
        return new int[] {r.kind, r.weight, r.place, r.since}[what];
    }

    int car(int car, int what) {
        if (car < 0 || car > 11 || what < 0 || what > 3) {
            return BAD;
        }
        return new int[] {load(car), seats(car), sands[car], setAt(car, car)}[what];
    }

    int limit(int v) {
        if (v < 0 || v > 999) {
            return BAD;
        }
        int before = limit;
        limit = v;
        if (even()) {
            return before;
        }
        limit = before;
        return NOT;
    }

    int out(int what) {
        if (what < 0 || what > 5) {
            return BAD - FAR;
        }
        long[] v = vector();
        long[] sq = square(v);
        return (int) new long[] {v[0], v[1], v[2], v[3], sq[0], sq[1]}[what];
    }

    int type(long w, int n) {
        if (n < 1 || n > 8) {
            return BAD;
        }
        String more = "";
        for (int i = 0; i < n; i++) {
            int b = (int) (w >> 8 * i) & 255;
            if (b < 32 || b > 126) {
                return BAD;
            }
            more = (char) b + more;
        }
        if (tape.length() + n > 120) {
            return FULL;
        }
        tape.append(more);
        return tape.length();
    }

    /** Words of a text with their places; digits side by side are one word. The end is one, too. */
    private static List<String> words(String text, List<Integer> places) {
        List<String> words = new ArrayList<>();
        int i = 0;
        while (i < text.length()) {
            int from = i;
            if (text.charAt(i) == ' ') {
                i++;
                continue;
            }
            while (i < text.length() && Character.isDigit(text.charAt(i))) {
                i++;
            }
            i = i == from ? i + 1 : i;
            words.add(text.substring(from, i));
            places.add(from);
        }
        words.add("");
        places.add(text.length());
        return words;
    }

    private static boolean isNumber(String word, int low, int high) {
        return word.matches("[0-9]+") && new BigDecimal(word).compareTo(new BigDecimal(low)) >= 0
            && new BigDecimal(word).compareTo(new BigDecimal(high)) <= 0;
    }

    int people() {
        List<Integer> places = new ArrayList<>();
        List<String> words = words(tape.toString(), places);
        tape.setLength(0);
        List<Rider> found = new ArrayList<>();
        int i = 0;
        while (true) {
            if (words.get(i).isEmpty() || !"gcsb".contains(words.get(i))) {
                return -20 - places.get(i);
            }
            if (!isNumber(words.get(i + 1), 1, 99)) {
                return -20 - places.get(i + 1);
            }
            found.add(new Rider("gcsb".indexOf(words.get(i)), Integer.parseInt(words.get(i + 1))));
            i += 2;
            if (words.get(i).isEmpty()) {
                break;
            }
            if (!words.get(i).equals(",") || found.size() == 10) {
                return -20 - places.get(i);
            }
            i++;
        }
        List<Rider> before = riders;
        riders = found;
        if (!even()) {
            riders = before;
            return NOT;
        }
        return found.size();
    }

    int evening() {
        List<Integer> places = new ArrayList<>();
        List<String> words = words(tape.toString(), places);
        tape.setLength(0);
        List<int[]> things = new ArrayList<>();
        int i = 0;
        while (true) {
            String verb = words.get(i);
            if (verb.isEmpty() || !"iost".contains(verb)) {
                return -20 - places.get(i);
            }
            i++;
            int value = 0;
            if (verb.equals("s")) {
                if (!isNumber(words.get(i), 0, 99)) {
                    return -20 - places.get(i);
                }
                value = Integer.parseInt(words.get(i));
                i++;
            } else if (!verb.equals("t")) {
                if (!words.get(i).matches("[0-9]+")) {
                    return -20 - places.get(i);
                }
                if (words.get(i).length() > 1) {
                    return -20 - places.get(i) - 1;
                }
                value = Integer.parseInt(words.get(i));
                i++;
            }
            things.add(new int[] {verb.charAt(0), value});
            if (words.get(i).isEmpty()) {
                break;
            }
            if (!words.get(i).equals(";")) {
                return -20 - places.get(i);
            }
            i++;
        }
        int done = 0;
        for (int[] thing : things) {
            int answer = thing[0] == 'i' ? board(thing[1]) : thing[0] == 'o' ? leave(thing[1])
                : thing[0] == 's' ? sand(thing[1]) : turn(1);
            if (answer < 0) {
                return done;
            }
            done++;
        }
        return done;
    }

    int count(int what) {
        if (what < 0 || what > 6) {
            return BAD;
        }
        return new int[] {riders.size(), minute, foot(), setAt(12, 12), setAt(0, 11), setAt(13, 13),
            Arrays.stream(sands).sum()}[what];
    }

    // ---- 2

    int board(int person) {
        if (!isOne(person) || riders.get(person).place != 12) {
            return BAD;
        }
        Rider r = riders.get(person);
        r.place = foot();
        r.since = minute;
        if (fits(foot()) && even()) {
            return seats(foot());
        }
        r.place = 12;
        r.since = NONE;
        return NOT;
    }

    int leave(int person) {
        if (!isOne(person) || riders.get(person).place != foot()) {
            return BAD;
        }
        Rider r = riders.get(person);
        r.place = 13;
        if (fits(foot()) && even()) {
            return minute - r.since;
        }
        r.place = foot();
        return NOT;
    }

    int sand(int v) {
        if (v < 0 || v > 99) {
            return BAD;
        }
        int before = sands[foot()];
        sands[foot()] = v;
        if (even()) {
            return before;
        }
        sands[foot()] = before;
        return NOT;
    }

    int turn(int n) {
        if (n < 1 || n > 60) {
            return BAD;
        }
        if (minute + n > 999) {
            return FULL;
        }
        minute += n;
        return minute;
    }

    int may(int what) {
        if (what < 0 || what > 1) {
            return BAD;
        }
        int set = 0;
        for (int i = 0; i < riders.size(); i++) {
            Model twin = twin();
            int answer = what == 0 ? twin.board(i) : twin.leave(i);
            set |= answer >= 0 ? 1 << i : 0;
        }
        return set;
    }

    // ---- 3

    /** The row of minutes by which all are in, or null; every row of all is looked at. */
    private int[] way(int set, int how) {
        int n = Integer.bitCount(set);
        int[] who = new int[n];
        for (int i = 0, k = 0; i < 10; i++) {
            if ((set >> i & 1) != 0) {
                who[k++] = i;
            }
        }
        int[] best = null;
        int bestLast = 99;
        int rows = (int) Math.pow(12, n);
        for (int code = 0; code < rows; code++) {
            int[] row = new int[n];
            int rest = code;
            for (int k = n - 1; k >= 0; k--) {
                row[k] = rest % 12;
                rest /= 12;
            }
            int last = Arrays.stream(row).max().getAsInt();
            if (last < bestLast && ordered(row, how) && works(who, row)) {
                best = row;
                bestLast = last;
            }
        }
        return best;
    }

    private static boolean ordered(int[] row, int how) {
        for (int k = 1; k < row.length; k++) {
            if (how == 1 && row[k] < row[k - 1] || how == 2 && row[k] != row[k - 1]) {
                return false;
            }
        }
        return true;
    }

    private boolean works(int[] who, int[] row) {
        boolean good = true;
        for (int m = 0; m < 12 && good; m++) {
            int car = (minute + m) % 12;
            boolean any = false;
            for (int k = 0; k < who.length; k++) {
                if (row[k] == m) {
                    riders.get(who[k]).place = car;
                    any = true;
                }
            }
            good = !any || fits(car) && even();
        }
        for (int one : who) {
            riders.get(one).place = 12;
        }
        return good;
    }

    private boolean askable(int set, int how) {
        return how >= 0 && how <= 2 && set > 0 && Integer.bitCount(set) <= 4 && (set & ~setAt(12, 12)) == 0;
    }

    int soonest(int set, int how) {
        if (!askable(set, how)) {
            return BAD;
        }
        int[] row = way(set, how);
        return row == null ? NONE : Arrays.stream(row).max().getAsInt();
    }

    int when(int set, int how, int person) {
        if (!askable(set, how) || person < 0 || person > 9 || (set & 1 << person) == 0) {
            return BAD;
        }
        int[] row = way(set, how);
        return row == null ? NONE : row[Integer.bitCount(set & ((1 << person) - 1))];
    }

    int empty() {
        boolean[] now = new boolean[1024];
        int all = setAt(0, 11);
        now[all] = true;
        for (int m = 0; m <= 23; m++) {
            boolean[] then = new boolean[1024];
            int car = (minute + m) % 12;
            int here = setAt(car, car);
            for (int set = 0; set < 1024; set++) {
                for (int part = 0; now[set] && part < 1024; part++) {
                    if ((part & ~(set & here)) == 0 && !then[set & ~part]) {
                        then[set & ~part] = holdsWithOnly(set & ~part, car);
                    }
                }
            }
            if (then[0]) {
                return m;
            }
            now = then;
        }
        return NONE;
    }

    private boolean holdsWithOnly(int set, int car) {
        Model twin = twin();
        for (int i = 0; i < riders.size(); i++) {
            if (twin.riders.get(i).place < 12 && (set >> i & 1) == 0) {
                twin.riders.get(i).place = 13;
            }
        }
        return twin.fits(car) && twin.even();
    }

    int least(int person, int what) {
        if (!isOne(person) || riders.get(person).place != 12 || what < 0 || what > 1) {
            return BAD;
        }
        int best = 100;
        int bestCar = -1;
        for (int car = 0; car < 12; car++) {
            for (int more = 0; more < best && sands[car] + more <= 99; more++) {
                Model twin = twin();
                twin.sands[car] += more;
                if (twin.board(person) >= 0) {
                    best = more;
                    bestCar = car;
                }
            }
        }
        return bestCar < 0 ? NONE : what == 0 ? best : bestCar;
    }

    private long[] worstFrom(int slip, int i) {
        if (i == riders.size()) {
            return square(vector());
        }
        Rider r = riders.get(i);
        if (r.place > 11) {
            return worstFrom(slip, i + 1);
        }
        int told = r.weight;
        long[] worst = {-1, 0};
        // All weights between, where that is not too many: the ends alone are what the class looks at.
        int step = Integer.bitCount(setAt(0, 11)) <= 3 ? 1 : told + slip - Math.max(0, told - slip);
        for (int w = Math.max(0, told - slip); w <= told + slip; w += Math.max(1, step)) {
            r.weight = w;
            long[] one = worstFrom(slip, i + 1);
            worst = compare(one, worst) > 0 ? one : worst;
        }
        r.weight = told;
        return worst;
    }

    int sure(int slip) {
        if (slip < 0 || slip > 9) {
            return BAD;
        }
        if (Integer.bitCount(setAt(0, 11)) > 8) {
            return FULL;
        }
        return compare(worstFrom(slip, 0), new long[] {4L * limit * limit, 0}) <= 0 ? 1 : 0;
    }

    int worst(int slip, int what) {
        if (slip < 0 || slip > 9 || what < 0 || what > 1) {
            return BAD - FAR;
        }
        if (Integer.bitCount(setAt(0, 11)) > 8) {
            return FULL - FAR;
        }
        return (int) worstFrom(slip, 0)[what];
    }

    private Model twin() {
        Model m = new Model();
        m.take(this);
        return m;
    }

    private void take(Model from) {
        riders = new ArrayList<>();
        for (Rider r : from.riders) {
            riders.add(r.twin());
        }
        sands = from.sands.clone();
        limit = from.limit;
        minute = from.minute;
    }

    int image() {
        kept = twin();
        return 1;
    }

    int restore() {
        if (kept == null) {
            return NONE;
        }
        take(kept);
        return 1;
    }

    // ---- 4

    private static int lane(Object row) {
        return row instanceof byte[] ? 0 : row instanceof short[] ? 1 : 2;
    }

    private int refusal(int sheet, int lane, long from, long to) {
        if (sheet < 0 || sheet > 3 || lane < 0 || lane > 2) {
            return BAD;
        }
        Object row = sheets[sheet];
        if (row == null) {
            return NULL;
        }
        if (lane(row) != lane) {
            return CAST;
        }
        return from < 0 || to > java.lang.reflect.Array.getLength(row) ? INDEX : 0;
    }

    private static void put(Object row, int i, int v) {
        if (row instanceof byte[]) {
            ((byte[]) row)[i] = (byte) v;
        } else if (row instanceof short[]) {
            ((short[]) row)[i] = (short) v;
        } else {
            ((int[]) row)[i] = v;
        }
    }

    int pour(int sheet, int lane, int from) {
        int refusal = refusal(sheet, lane, from, from + 12L);
        if (refusal != 0) {
            return refusal;
        }
        int[] before = sands;
        sands = new int[12];
        boolean good = true;
        for (int car = 0; car < 12; car++) {
            sands[car] = java.lang.reflect.Array.getInt(sheets[sheet], from + car);
            good = good && sands[car] >= 0 && sands[car] <= 99;
        }
        if (good && even()) {
            return Arrays.stream(sands).sum();
        }
        sands = before;
        return NOT;
    }

    int film(int sheet, int lane, int from) {
        int refusal = refusal(sheet, lane, from, from + 12L);
        if (refusal != 0) {
            return refusal;
        }
        for (int car = 0; car < 12; car++) {
            put(sheets[sheet], from + car, load(car));
        }
        return 12;
    }

    int sheet(int sheet, int lane, int n) {
        if (sheet < 0 || sheet > 3 || lane < 0 || lane > 2 || n > 24) {
            return BAD;
        }
        if (n < 0) {
            return SIZE;
        }
        sheets[sheet] = lane == 0 ? new byte[n] : lane == 1 ? new short[n] : new int[n];
        return n;
    }

    int drop(int sheet) {
        if (sheet < 0 || sheet > 3) {
            return BAD;
        }
        if (sheets[sheet] == null) {
            return NULL;
        }
        int n = java.lang.reflect.Array.getLength(sheets[sheet]);
        sheets[sheet] = null;
        return n;
    }

    int item(int sheet, int lane, int i, int v) {
        int refusal = refusal(sheet, lane, i, i + 1L);
        if (refusal != 0) {
            return refusal;
        }
        put(sheets[sheet], i, v);
        return 1;
    }

    int copy(int from, int i, int to, int j, int n) {
        if (from < 0 || from > 3 || to < 0 || to > 3) {
            return BAD;
        }
        if (sheets[from] == null || sheets[to] == null) {
            return NULL;
        }
        try {
            System.arraycopy(sheets[from], i, sheets[to], j, n);
            return n;
        } catch (ArrayStoreException unlike) {
            return CAST;
        } catch (IndexOutOfBoundsException outside) {
            return INDEX;
        }
    }
}
