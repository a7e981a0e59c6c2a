import java.util.Random;

/** Long runs of calls, ordinary and wrong ones, on the class and on the model side by side. */
public final class ModelTest {
    private static final int RUNS = 240;
    private static final int CALLS = 512;
    private static final int[] ODD = {-1, Integer.MIN_VALUE, Integer.MAX_VALUE, 10, 11, 12, 13, 24, 25, 31, 32, 33, 60, 61,
        99, 100, 999, 1000, 1024, 4096, -2, 255, 256, 65536};

    private final Random random;
    private final Check check;
    private final int run;
    private final TwelveCars x = new TwelveCars();
    private final Model m = new Model();
    private int limitAbout;
    private int weightAbout;

    private ModelTest(int run, Check check) {
        this.run = run;
        this.check = check;
        random = new Random(run * 7919L + 5);
        limitAbout = new int[] {0, 5, 12, 20, 20, 35, 60, 200, 999}[random.nextInt(9)];
        weightAbout = new int[] {1, 5, 12, 20, 40, 99}[random.nextInt(6)];
    }

    public static void main(String[] args) {
        Check check = new Check();
        for (int run = 0; run < RUNS && check.isClean(); run++) {
            new ModelTest(run, check).play();
        }
        check.end();
    }

    private void play() {
        for (int call = 0; call < CALLS && check.isClean(); call++) {
            step(call);
            if (random.nextInt(6) == 0) {
                look();
            }
        }
        look();
    }

    private int in(int low, int high) {
        if (random.nextInt(60) == 0) {
            return ODD[random.nextInt(ODD.length)];
        }
        return low + random.nextInt(high - low + 1);
    }

    private void due(String call, long got, long want) {
        check.due("run " + run + ": " + call, got, want);
    }

    /** All that can be told of a wheel but the searches. */
    private void look() {
        for (int what = 0; what < 7; what++) {
            due("count(" + what + ")", x.count(what), m.count(what));
            due("out(" + what + ")", x.out(what), m.out(what));
        }
        for (int car = 0; car < 12; car++) {
            for (int what = 0; what < 4; what++) {
                due("car(" + car + ", " + what + ")", x.car(car, what), m.car(car, what));
            }
        }
        for (int one = 0; one < 10; one++) {
            for (int what = 0; what < 4; what++) {
                due("told(" + one + ", " + what + ")", x.told(one, what), m.told(one, what));
            }
        }
    }

    private void step(int call) {
        int kind = call < 2 ? 0 : random.nextInt(40);
        if (kind < 3) {
            text(call > 1 && (kind > 0 || random.nextInt(3) != 0));
        } else if (kind < 18) {
            happen(random.nextInt(10));
        } else if (kind < 29) {
            ask(random.nextInt(9));
        } else {
            sheets(random.nextInt(8));
        }
    }

    private void text(boolean evening) {
        String text = evening ? eveningText() : peopleText();
        if (random.nextInt(4) == 0) {
            text = spoilt(text);
        }
        for (int from = 0; from < text.length(); from += 8) {
            String part = text.substring(from, Math.min(from + 8, text.length()));
            long w = Check.packed(part);
            due("type " + part, x.type(w, part.length()), m.type(w, part.length()));
        }
        if (evening != (random.nextInt(30) == 0)) {
            due("evening of " + text, x.evening(), m.evening());
        } else {
            due("people of " + text, x.people(), m.people());
        }
    }

    private String peopleText() {
        StringBuilder b = new StringBuilder();
        int n = 1 + random.nextInt(10);
        for (int i = 0; i < n; i++) {
            b.append(i == 0 ? "" : ",").append("ggcsbggs".charAt(random.nextInt(8)));
            b.append(random.nextInt(9) == 0 ? "00" : "").append(1 + random.nextInt(weightAbout));
        }
        return b.toString();
    }

    private String eveningText() {
        StringBuilder b = new StringBuilder();
        int n = 1 + random.nextInt(30);
        for (int i = 0; i < n; i++) {
            b.append(i == 0 ? "" : ";");
            int verb = random.nextInt(10);
            b.append(verb < 5 ? "i" + random.nextInt(10) : verb < 6 ? "o" + random.nextInt(10)
                : verb < 7 ? "s" + random.nextInt(weightAbout) : "t");
        }
        return b.toString();
    }

    private String spoilt(String text) {
        StringBuilder b = new StringBuilder(text);
        int n = 1 + random.nextInt(3);
        for (int i = 0; i < n; i++) {
            int at = random.nextInt(b.length() + 1);
            String odd = "   0123456789gcsbiot,;x~!";
            b.insert(at, odd.charAt(random.nextInt(odd.length())));
        }
        return random.nextInt(5) == 0 ? b.substring(0, random.nextInt(b.length() + 1)) : b.toString();
    }

    private void happen(int which) {
        int one = in(0, 9);
        if (which < 3) {
            due("board(" + one + ")", x.board(one), m.board(one));
        } else if (which == 3) {
            int gone = random.nextInt(3) == 0 ? one : someoneAtFoot(one);
            due("leave(" + gone + ")", x.leave(gone), m.leave(gone));
        } else if (which == 4) {
            int v = in(0, Math.min(99, weightAbout));
            due("sand(" + v + ")", x.sand(v), m.sand(v));
        } else if (which < 8) {
            int n = random.nextInt(12) == 0 ? in(1, 60) : random.nextInt(5) == 0 ? 12 : in(1, 4);
            due("turn(" + n + ")", x.turn(n), m.turn(n));
        } else if (which == 8) {
            int v = random.nextInt(3) == 0 ? in(0, 999) : in(limitAbout / 2, limitAbout);
            due("limit(" + v + ")", x.limit(v), m.limit(v));
        } else {
            int k = in(0, 3);
            int w = in(1, weightAbout);
            due("person(" + k + ", " + w + ")", x.person(k, w), m.person(k, w));
        }
    }

    private int someoneAtFoot(int otherwise) {
        int set = m.car(m.count(2), 3);
        for (int i = 0; i < 20; i++) {
            int one = random.nextInt(10);
            if ((set >> one & 1) != 0) {
                return one;
            }
        }
        return otherwise;
    }

    private int someSet() {
        int waiting = m.count(3);
        int set = waiting & random.nextInt(1024);
        for (int i = 0; i < 10 && Integer.bitCount(set) > 4; i++) {
            set &= ~(1 << random.nextInt(10));
        }
        return random.nextInt(10) == 0 ? in(0, 1023) : set;
    }

    private void ask(int which) {
        int what = in(0, 1);
        int slip = in(0, 9);
        int one = in(0, 9);
        int set = someSet();
        int how = in(0, 2);
        switch (which) {
            case 0: due("may(" + what + ")", x.may(what), m.may(what)); break;
            case 1: due("soonest(" + set + ", " + how + ")", x.soonest(set, how), m.soonest(set, how)); break;
            case 2:
                for (int i = 0; i < 10; i++) {
                    due("when(" + set + ", " + how + ", " + i + ")", x.when(set, how, i), m.when(set, how, i));
                }
                due("when(" + set + ", " + how + ", " + one + ")", x.when(set, how, one), m.when(set, how, one));
                break;
            case 3: due("empty()", x.empty(), m.empty()); break;
            case 4: due("least(" + one + ", " + what + ")", x.least(one, what), m.least(one, what)); break;
            case 5: due("sure(" + slip + ")", x.sure(slip), m.sure(slip)); break;
            case 6: due("worst(" + slip + ", " + what + ")", x.worst(slip, what), m.worst(slip, what)); break;
            case 7:
                if (random.nextInt(3) == 0) {
                    due("image()", x.image(), m.image());
                }
                break;
            default:
                if (random.nextInt(8) == 0) {
                    due("restore()", x.restore(), m.restore());
                }
        }
    }

    private void sheets(int which) {
        int a = in(0, 3);
        int b = in(0, 3);
        int lane = random.nextInt(3) == 0 ? in(0, 2) : 1;
        int n = random.nextInt(3) == 0 ? in(0, 24) : 24;
        int i = random.nextBoolean() ? in(0, 24) : in(0, 12);
        int j = in(0, 24);
        int v = random.nextInt(6) == 0 ? random.nextInt() : in(0, Math.min(99, weightAbout));
        switch (which) {
            case 0: due("pour(" + a + ", " + lane + ", " + i + ")", x.pour(a, lane, i), m.pour(a, lane, i)); break;
            case 1: due("film(" + a + ", " + lane + ", " + i + ")", x.film(a, lane, i), m.film(a, lane, i)); break;
            case 2: due("sheet(" + a + ", " + lane + ", " + n + ")", x.sheet(a, lane, n), m.sheet(a, lane, n)); break;
            case 3:
                if (random.nextInt(6) == 0) {
                    due("drop(" + a + ")", x.drop(a), m.drop(a));
                }
                break;
            case 4:
                due("copy(" + a + ", " + i + ", " + b + ", " + j + ", " + n % 9 + ")",
                    x.copy(a, i, b, j, n % 9), m.copy(a, i, b, j, n % 9));
                break;
            default:
                due("item(" + a + ", " + lane + ", " + i + ", " + v + ")", x.item(a, lane, i, v), m.item(a, lane, i, v));
        }
    }
}
