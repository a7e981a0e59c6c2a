import java.util.Random;
import java.util.TreeMap;

/**
 * Searches on wheels that hang close to their limit, on the class and on the model side by side: there the answers come
 * late (up to 11 and 23 minutes) or not at all, which long runs of ordinary calls seldom reach.
 */
public final class TightWheelTest {
    private static final int WHEELS = 400;
    private static final double ROOT = Math.sqrt(3);
    private static final int[] SLACKS = {0, 0, 1, 2, 3, 5, 8, 13, 21};

    private final Random random;
    private final Check check;
    private final TreeMap<String, Integer> seen;
    private final int number;
    private final TwelveCars x = new TwelveCars();
    private final Model m = new Model();

    private TightWheelTest(int number, Check check, TreeMap<String, Integer> seen) {
        this.number = number;
        this.check = check;
        this.seen = seen;
        random = new Random(number * 104729L + 3);
    }

    public static void main(String[] args) {
        Check check = new Check();
        TreeMap<String, Integer> seen = new TreeMap<>();
        for (int number = 0; number < WHEELS && check.isClean(); number++) {
            new TightWheelTest(number, check, seen).play();
        }
        if (check.isClean()) {
            everyAnswerCameUp(check, seen);
        }
        check.end();
    }

    /** A test of late answers is worth nothing if none comes late. */
    private static void everyAnswerCameUp(Check check, TreeMap<String, Integer> seen) {
        for (int minutes = 0; minutes <= 23; minutes++) {
            check.holds("no wheel was empty in " + minutes, seen.containsKey("empty " + minutes));
            for (int how = 0; how < 3 && minutes <= 11; how++) {
                String name = "soonest by " + how + " " + minutes;
                check.holds("never " + name, seen.containsKey(name));
            }
        }
        check.holds("every wheel became empty", seen.containsKey("empty " + Model.NONE));
        check.holds("every wheel was sure", seen.containsKey("sure 0"));
        check.holds("no wheel was sure", seen.containsKey("sure 1"));
    }

    private void due(String call, int got, int want) {
        check.due("wheel " + number + ": " + call, got, want);
    }

    private void count(String name, int answer) {
        seen.merge(name + " " + answer, 1, Integer::sum);
    }

    private void play() {
        limit(999);
        fill(random.nextInt(4), 1 + random.nextInt(99));
        for (int round = 0; round < 2; round++) {
            tighten();
            searches();
            emptyFromEachCar();
            turn(1 + random.nextInt(12));
        }
    }

    private void limit(int v) {
        due("limit(" + v + ")", x.limit(v), m.limit(v));
    }

    private void turn(int n) {
        due("turn(" + n + ")", x.turn(n), m.turn(n));
    }

    /** A round of the wheel: sand in some cars, and some of the people get in where they may. */
    private void fill(int sandy, int heaviest) {
        int n = 2 + random.nextInt(9);
        for (int i = 0; i < n; i++) {
            int kind = "0001223".charAt(random.nextInt(7)) - '0';
            int weight = 1 + random.nextInt(heaviest);
            due("person(" + kind + ", " + weight + ")", x.person(kind, weight), m.person(kind, weight));
        }
        int riders = random.nextInt(n + 1);
        boolean crowded = random.nextBoolean();
        for (int car = 0; car < 12; car++) {
            if (random.nextInt(4) < sandy) {
                int v = random.nextInt(1 + heaviest);
                due("sand(" + v + ")", x.sand(v), m.sand(v));
            }
            if (!crowded) {
                someGetIn(riders, 8);
            } else if (random.nextInt(3) == 0) {
                someGetIn(riders, 2);
            }
            turn(1);
        }
    }

    /** About one of so many tries; crowded cars are those of which a part must get out ahead of the others. */
    private void someGetIn(int riders, int tries) {
        for (int i = 0; i < riders; i++) {
            if (random.nextInt(tries) == 0) {
                due("board(" + i + ")", x.board(i), m.board(i));
            }
        }
    }

    /** The limit comes down to the least by which the wheel is even, or a little more. */
    private void tighten() {
        double square = m.out(4) + m.out(5) * ROOT;
        int least = (int) Math.ceil(Math.sqrt(Math.max(0, square)) / 2 - 0.000001);
        limit(Math.min(999, least + SLACKS[random.nextInt(SLACKS.length)]));
    }

    private void searches() {
        due("may(0)", x.may(0), m.may(0));
        due("may(1)", x.may(1), m.may(1));
        for (int how = 0; how < 3; how++) {
            allIn(someWhoWait(), how);
            allIn(someWhoWait(), how);
        }
        for (int one = 0; one < 10; one++) {
            due("least(" + one + ", 0)", x.least(one, 0), m.least(one, 0));
            due("least(" + one + ", 1)", x.least(one, 1), m.least(one, 1));
        }
        for (int slip = 0; slip < 10; slip += 3) {
            int sure = x.sure(slip);
            due("sure(" + slip + ")", sure, m.sure(slip));
            count("sure", sure);
            due("worst(" + slip + ", 0)", x.worst(slip, 0), m.worst(slip, 0));
            due("worst(" + slip + ", 1)", x.worst(slip, 1), m.worst(slip, 1));
        }
    }

    private void emptyFromEachCar() {
        for (int car = 0; car < 12; car++) {
            int minutes = x.empty();
            due("empty()", minutes, m.empty());
            count("empty", minutes);
            turn(1);
        }
    }

    private int someWhoWait() {
        int set = m.count(3);
        int most = 1 + random.nextInt(4);
        for (int i = 0; i < 200 && Integer.bitCount(set) > most; i++) {
            set &= ~(1 << random.nextInt(10));
        }
        return set;
    }

    private void allIn(int set, int how) {
        int soonest = x.soonest(set, how);
        due("soonest(" + set + ", " + how + ")", soonest, m.soonest(set, how));
        count("soonest by " + how, soonest);
        for (int one = 0; one < 10; one++) {
            if ((set >> one & 1) != 0) {
                due("when(" + set + ", " + how + ", " + one + ")", x.when(set, how, one), m.when(set, how, one));
            }
        }
    }
}
