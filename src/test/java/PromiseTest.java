/** Each promise by itself: ordinary inputs, the edges that the document names, wrong inputs. */
public final class PromiseTest {
    private static final int FAR = 100000000;
    private static final Check CHECK = new Check();

    public static void main(String[] args) {
        newObject();
        person();
        told();
        car();
        limit();
        out();
        exactEdgeOfEven();
        type();
        people();
        peopleFaults();
        evening();
        eveningFaults();
        count();
        board();
        kindsTogether();
        leave();
        sand();
        turn();
        may();
        soonest();
        soonestInCarsToCome();
        when();
        aheadOfTheLastMinute();
        empty();
        emptyAtItsEdges();
        least();
        sureAndWorst();
        imageAndRestore();
        pour();
        film();
        sheetAndDrop();
        item();
        copy();
        CHECK.end();
    }

    private static void due(String call, long got, long want) {
        CHECK.due(call, got, want);
    }

    private static TwelveCars with(String people) {
        return Scene.of(people);
    }

    private static TwelveCars with(String people, int limit, String evening) {
        return Scene.of(people, limit, evening);
    }

    private static void newObject() {
        TwelveCars x = new TwelveCars();
        for (int what = 0; what <= 6; what++) {
            due("1 count " + what, x.count(what), 0);
        }
        for (int car = 0; car < 12; car++) {
            due("1 car " + car, x.car(car, 0), 0);
        }
        due("1 limit", x.limit(7), 20);
        due("1 empty tape", x.type('t', 1), 1);
        due("1 sheet", x.drop(0), TwelveCars.NULL);
        due("1 image", x.restore(), TwelveCars.NONE);
    }

    private static void person() {
        TwelveCars x = new TwelveCars();
        due("2 kind below", x.person(-1, 5), TwelveCars.BAD);
        due("2 kind above", x.person(4, 5), TwelveCars.BAD);
        due("2 weight 0", x.person(0, 0), TwelveCars.BAD);
        due("2 weight 100", x.person(0, 100), TwelveCars.BAD);
        for (int i = 0; i < 10; i++) {
            due("2 person", x.person(i % 4, i == 0 ? 1 : 99), i);
        }
        due("2 full", x.person(0, 5), TwelveCars.FULL);
        due("2 bad ahead of full", x.person(0, 100), TwelveCars.BAD);
        due("2 all wait", x.count(3), 1023);
    }

    private static void told() {
        TwelveCars x = with("s7,g9");
        due("3 kind", x.told(0, 0), 2);
        due("3 weight", x.told(0, 1), 7);
        due("3 waits", x.told(0, 2), 12);
        due("3 has not got in", x.told(0, 3), TwelveCars.NONE);
        x.turn(13);
        x.board(0);
        due("3 car", x.told(0, 2), 1);
        due("3 minute", x.told(0, 3), 13);
        x.turn(12);
        x.leave(0);
        due("3 gone", x.told(0, 2), 13);
        due("3 minute of one who is gone", x.told(0, 3), 13);
        due("3 nobody", x.told(2, 0), TwelveCars.BAD);
        due("3 below", x.told(-1, 0), TwelveCars.BAD);
        due("3 what", x.told(0, 4), TwelveCars.BAD);
        due("3 what below", x.told(0, -1), TwelveCars.BAD);
    }

    private static void car() {
        TwelveCars x = with("g4,s5,b6");
        x.turn(2);
        x.board(0);
        x.board(1);
        x.sand(3);
        due("4 load", x.car(2, 0), 12);
        due("4 seats", x.car(2, 1), 3);
        due("4 sand", x.car(2, 2), 3);
        due("4 who", x.car(2, 3), 3);
        x.turn(1);
        x.board(2);
        due("4 a goat takes two", x.car(3, 1), 2);
        due("4 car 12", x.car(12, 0), TwelveCars.BAD);
        due("4 car -1", x.car(-1, 0), TwelveCars.BAD);
        due("4 what", x.car(0, 4), TwelveCars.BAD);
    }

    private static void limit() {
        TwelveCars x = with("g10");
        due("5 above", x.limit(1000), TwelveCars.BAD);
        due("5 below", x.limit(-1), TwelveCars.BAD);
        x.board(0);
        due("5 not", x.limit(9), TwelveCars.NOT);
        due("5 just even", x.limit(10), 20);
        due("5 what it was", x.limit(999), 10);
        due("5 nothing for 0", new TwelveCars().limit(0), 20);
    }

    private static void out() {
        int[][] corners = {{2, 0, 0, 0}, {0, 1, 1, 0}, {1, 0, 0, 1}, {0, 0, 2, 0}, {-1, 0, 0, 1}, {0, -1, 1, 0},
            {-2, 0, 0, 0}, {0, -1, -1, 0}, {-1, 0, 0, -1}, {0, 0, -2, 0}, {1, 0, 0, -1}, {0, 1, -1, 0}};
        for (int car = 0; car < 12; car++) {
            TwelveCars x = new TwelveCars();
            if (car > 0) {
                x.turn(car);
            }
            x.sand(5);
            for (int i = 0; i < 4; i++) {
                due("6 corner " + car + " " + i, x.out(i), 5 * corners[car][i]);
            }
            due("6 A of one", x.out(4), 100);
            due("6 B of one", x.out(5), 0);
        }
        TwelveCars x = new TwelveCars();
        x.sand(5);
        x.turn(1);
        x.sand(5);
        due("6 A", x.out(4), 100 + 75 + 25);
        due("6 B", x.out(5), 2 * 50);
        x.turn(4);
        x.sand(9);
        due("6 p", x.out(0), 10);
        due("6 q below 0", x.out(1), -4);
        due("6 B below 0", x.out(5), -80);
        due("6 bad", x.out(6), -1 - FAR);
        due("6 bad below", x.out(-1), -1 - FAR);
    }

    /** Squares that lie within a few thousandths of what may be, on either side. */
    private static void exactEdgeOfEven() {
        due("1 just below 4 times 110 times 110", limitOfThree(71, 41, 7, 110), 999);
        due("1 a whole one less", limitOfThree(71, 41, 7, 109), TwelveCars.NOT);
        due("1 just below 4 times 159 times 159", limitOfThree(82, 71, 33, 159), 999);
        due("1 just above 4 times 124 times 124", limitOfThree(62, 31, 71, 124), TwelveCars.NOT);
        due("1 a whole one more", limitOfThree(62, 31, 71, 124 + 1), 999);
    }

    /** What limit answers with sand in the cars 0, 1, 3, having been 999. */
    private static int limitOfThree(int first, int second, int fourth, int limit) {
        TwelveCars x = new TwelveCars();
        x.limit(999);
        x.sand(first);
        x.turn(1);
        x.sand(second);
        x.turn(2);
        x.sand(fourth);
        due("1 sand", x.count(6), first + second + fourth);
        return x.limit(limit);
    }

    private static void type() {
        TwelveCars x = new TwelveCars();
        due("7 n 0", x.type('t', 0), TwelveCars.BAD);
        due("7 n 9", x.type('t', 9), TwelveCars.BAD);
        due("7 byte 31", x.type(31, 1), TwelveCars.BAD);
        due("7 byte 127", x.type(127, 1), TwelveCars.BAD);
        due("7 byte 0 ahead", x.type('t', 2), TwelveCars.BAD);
        due("7 byte 255", x.type(-1L, 8), TwelveCars.BAD);
        due("7 higher bytes do not count", x.type(0xff000067L, 1), 1);
        due("7 second", x.type('5', 1), 2);
        due("7 as typed", x.people(), 1);
        due("7 weight", x.told(0, 1), 5);
        for (int i = 1; i <= 15; i++) {
            due("7 eight", x.type(0x2020202020202020L, 8), 8 * i);
        }
        due("7 full", x.type('t', 1), TwelveCars.FULL);
        due("7 bad ahead of full", x.type(7, 1), TwelveCars.BAD);
        due("7 full tape of blanks", x.evening(), -140);
        due("7 empty then", x.type(0x7e20, 2), 2);
        for (int i = 1; i <= 14; i++) {
            x.type(0x2020202020202020L, 8);
        }
        due("7 114 and 7", x.type(0x20202020202020L, 7), TwelveCars.FULL);
        due("7 114 and 6", x.type(0x202020202020L, 6), 120);
    }

    private static void people() {
        TwelveCars x = with("g1,c2,s3,b04");
        for (int i = 0; i < 4; i++) {
            due("8 kind", x.told(i, 0), i);
            due("8 weight", x.told(i, 1), i + 1);
        }
        x.board(0);
        x.turn(1);
        x.sand(9);
        due("8 in place of those told", Check.people(x, "b99"), 1);
        due("8 all wait", x.count(3), 1);
        due("8 nobody rides", x.count(4), 0);
        due("8 sand stays", x.count(6), 9);
        due("8 minute stays", x.count(1), 1);
        due("8 load", x.car(0, 0), 0);
        due("8 ten", Check.people(x, "g1,g1,g1,g1,g1,g1,g1,g1,g1,g1"), 10);
        due("8 eleven", Check.people(x, "g1,g1,g1,g1,g1,g1,g1,g1,g1,g1,g1"), -49);
        due("8 those told stay", x.count(0), 10);

        x = with("g15,g15");
        x.board(0);
        x.turn(6);
        x.sand(30);
        due("8 even by who rides alone", Check.people(x, "g1"), TwelveCars.NOT);
        due("8 those told stay", x.told(0, 2), 0);
        due("8 fault ahead of not", Check.people(x, "g"), -21);
        due("8 the tape is empty behind not", x.type('g', 1), 1);
    }

    private static void peopleFaults() {
        TwelveCars x = with("g3");
        String[] texts = {"", " ", "   ", "5", "G5", "i5", "g", "g ", "gg5", "g0", "g00", "g100", "g0100", "g99999999999999999999",
            "g5 5", "g5;", "g5,", "g5, ", "g5,,", ",g5", "g5g5", "g5 g5", "g5x", "g5,x", "g100x", "x100", " g5 , b0", "g-1"};
        int[] places = {0, 1, 3, 0, 0, 0, 1, 2, 1, 1, 1, 1, 1, 1, 3, 2, 3, 4, 3, 0, 2, 3, 2, 3, 1, 0, 7, 1};
        for (int i = 0; i < texts.length; i++) {
            due("8 fault of '" + texts[i] + "'", Check.people(x, texts[i]), -20 - places[i]);
        }
        due("8 those told stay", x.told(0, 1), 3);
        due("8 blanks", Check.people(x, " g  007 ,  c 99  "), 2);
        due("8 zeros ahead", x.told(0, 1), 7);
        due("8 many zeros ahead", Check.people(x, "s000000000000000000000000000000000000000000042"), 1);
        due("8 forty-two", x.told(0, 1), 42);
    }

    private static void evening() {
        TwelveCars x = with("g10,g10,c5");
        due("9 all", Check.evening(x, "i0;i2;t;t;t;t;t;t;s012;i1"), 10);
        due("9 who rides", x.count(4), 7);
        due("9 minute", x.count(1), 6);
        due("9 sand", x.car(6, 2), 12);
        due("9 till one may not be", Check.evening(x, "s9;s99;t"), 1);
        due("9 what is done stays", x.car(6, 2), 9);
        due("9 no turn behind it", x.count(1), 6);
        due("9 a digit that is nobody's", Check.evening(x, "t;i3;t"), 1);
        due("9 one who rides elsewhere", Check.evening(x, "o1;t"), 0);
        due("9 one who does not wait", Check.evening(x, "i1"), 0);
        due("9 out", Check.evening(x, "t;t;t;t;t;o2;o0"), 7);
        due("9 gone", x.count(5), 5);
        due("9 one who is gone", Check.evening(x, "i0"), 0);
        for (int i = 0; i < 16; i++) {
            x.turn(60);
        }
        x.turn(25);
        due("9 minute", x.count(1), 997);
        due("9 a turn above 999", Check.evening(x, "t;t;t;s0"), 2);
        due("9 999", x.count(1), 999);
        due("9 the tape is empty then", x.type('t', 1), 1);
        due("9 sixty", Check.evening(new TwelveCars(), "t;t;t;t;t;t;t;t;t;t;t;t;t;t;t;t;t;t;t;t;t;t;t;t;t;t;t;t;t;t;"
            + "t;t;t;t;t;t;t;t;t;t;t;t;t;t;t;t;t;t;t;t;t;t;t;t;t;t;t;t;t;t"), 60);
    }

    private static void eveningFaults() {
        TwelveCars x = with("g3");
        String[] texts = {"", "  ", "x", "5", ";", "i", "i ", "ia", "i01", "i0 1", "o", "o;", "s", "s;", "s100", "s00100",
            "s5 5", "s5,", "t;", "t; ", "tt", "t t", "t1", "t;;", "i0;t;s99;s100;x", "g3", "T"};
        int[] places = {0, 2, 0, 0, 0, 1, 2, 1, 2, 3, 1, 1, 1, 1, 1, 1,
            3, 2, 2, 3, 1, 2, 1, 2, 10, 0, 0};
        for (int i = 0; i < texts.length; i++) {
            due("9 fault of '" + texts[i] + "'", Check.evening(x, texts[i]), -20 - places[i]);
        }
        due("9 nothing is done", x.count(1), 0);
        due("9 nobody got in", x.count(4), 0);
        due("9 blanks", Check.evening(x, " i  0 ; s 000 ;t "), 3);
    }

    private static void count() {
        TwelveCars x = with("g3,g4,g5");
        due("10 done", Check.evening(x, "i0;s4;t;i1;s1;o1;t"), 7);
        due("10 people", x.count(0), 3);
        due("10 minute", x.count(1), 2);
        due("10 foot", x.count(2), 2);
        due("10 waits", x.count(3), 4);
        due("10 rides", x.count(4), 1);
        due("10 gone", x.count(5), 2);
        due("10 sand", x.count(6), 5);
        x.turn(10);
        due("10 foot is 0 behind 11", x.count(2), 0);
        due("10 bad", x.count(7), TwelveCars.BAD);
        due("10 bad below", x.count(-1), TwelveCars.BAD);
    }

    private static void board() {
        TwelveCars x = with("g20,g21,c1,g5,s3");
        due("11 nobody", x.board(5), TwelveCars.BAD);
        due("11 below", x.board(-1), TwelveCars.BAD);
        due("11 a child alone", x.board(2), TwelveCars.NOT);
        due("11 out of true", x.board(1), TwelveCars.NOT);
        due("11 just even", x.board(0), 1);
        due("11 does not wait", x.board(0), TwelveCars.BAD);
        due("11 not now", x.board(2), TwelveCars.NOT);
        x.limit(30);
        due("11 child", x.board(2), 2);
        due("11 four seats", x.board(4), TwelveCars.NOT);
        due("11 refused ones wait", x.told(4, 2), 12);
        due("11 third seat", x.board(3), 3);
    }

    private static void kindsTogether() {
        // Rows: who rides, who would get in, what is answered.
        String[][] rows = {{"g", "g", "2"}, {"g", "c", "2"}, {"g", "s", "3"}, {"g", "b", "3"},
            {"s", "g", "3"}, {"s", "c", "3"}, {"s", "s", "-2"}, {"s", "b", "-2"},
            {"b", "g", "3"}, {"b", "c", "-2"}, {"b", "s", "-2"}, {"b", "b", "-2"},
            {"gc", "c", "3"}, {"gc", "g", "3"}, {"gc", "b", "-2"}, {"gc", "s", "-2"},
            {"gg", "g", "3"}, {"gg", "b", "-2"}, {"ggg", "g", "-2"}, {"ggg", "c", "-2"}, {"bg", "c", "-2"},
            {"", "g", "1"}, {"", "c", "-2"}, {"", "s", "2"}, {"", "b", "2"}};
        for (String[] row : rows) {
            TwelveCars x = new TwelveCars();
            String all = row[0] + row[1];
            for (int i = 0; i < all.length(); i++) {
                x.person("gcsb".indexOf(all.charAt(i)), 1);
            }
            for (int i = 0; i < row[0].length(); i++) {
                CHECK.holds("11 rides in " + row[0], x.board(i) > 0);
            }
            due("11 " + row[1] + " to " + row[0], x.board(all.length() - 1), Integer.parseInt(row[2]));
        }
    }

    private static void leave() {
        TwelveCars x = with("g5,c5,g30,g30", 40, "i0;i1");
        due("12 nobody", x.leave(4), TwelveCars.BAD);
        due("12 below", x.leave(-1), TwelveCars.BAD);
        due("12 waits", x.leave(2), TwelveCars.BAD);
        due("12 a child would ride alone", x.leave(0), TwelveCars.NOT);
        due("12 still rides", x.told(0, 2), 0);
        due("12 at once", x.leave(1), 0);
        x.turn(1);
        due("12 not at the foot", x.leave(0), TwelveCars.BAD);
        x.turn(23);
        due("12 two rounds", x.leave(0), 24);
        due("12 is gone", x.leave(0), TwelveCars.BAD);
        x.board(2);
        x.turn(6);
        x.board(3);
        x.limit(20);
        due("12 out of true then", x.leave(3), TwelveCars.NOT);
        x.limit(40);
        x.turn(12);
        due("12 from minute 30 to 42", x.leave(3), 12);
    }

    private static void sand() {
        TwelveCars x = new TwelveCars();
        due("13 below", x.sand(-1), TwelveCars.BAD);
        due("13 above", x.sand(100), TwelveCars.BAD);
        due("13 not even", x.sand(21), TwelveCars.NOT);
        due("13 just even", x.sand(20), 0);
        due("13 what it was", x.sand(4), 20);
        due("13 what there is", x.car(0, 2), 4);
        x.limit(999);
        due("13 99", x.sand(99), 4);
        x.turn(6);
        due("13 across", x.sand(99), 0);
        x.limit(0);
        due("13 less would not be even", x.sand(98), TwelveCars.NOT);
    }

    private static void turn() {
        TwelveCars x = new TwelveCars();
        due("14 0", x.turn(0), TwelveCars.BAD);
        due("14 61", x.turn(61), TwelveCars.BAD);
        due("14 below", x.turn(-1), TwelveCars.BAD);
        due("14 1", x.turn(1), 1);
        for (int i = 1; i <= 16; i++) {
            due("14 60", x.turn(60), 60 * i + 1);
        }
        due("14 full", x.turn(39), TwelveCars.FULL);
        due("14 bad ahead of full", x.turn(61), TwelveCars.BAD);
        due("14 999", x.turn(38), 999);
        due("14 999 at most", x.turn(1), TwelveCars.FULL);
        due("14 foot", x.count(2), 3);
    }

    private static void may() {
        TwelveCars x = with("g20,g5,c4,s21,b3,g9");
        due("15 in", x.may(0), 1 + 2 + 16 + 32);
        due("15 out", x.may(1), 0);
        due("15 done", Check.evening(x, "i1;i2"), 2);
        due("15 in with a child", x.may(0), 32);
        due("15 out, not who keeps the child", x.may(1), 4);
        x.turn(1);
        due("15 out elsewhere", x.may(1), 0);
        due("15 bad", x.may(2), TwelveCars.BAD);
        due("15 bad below", x.may(-1), TwelveCars.BAD);
    }

    private static void soonest() {
        TwelveCars x = with("g20,g20,c8,s30,b15");
        due("16 one", x.soonest(1, 0), 0);
        due("16 two", x.soonest(3, 0), 4);
        due("16 two together", x.soonest(3, 2), TwelveCars.NONE);
        due("16 a child alone", x.soonest(4, 0), TwelveCars.NONE);
        due("16 too heavy", x.soonest(8, 1), TwelveCars.NONE);
        due("16 four", x.soonest(15, 0), 8);
        due("16 five", x.soonest(31, 0), TwelveCars.BAD);
        due("16 nobody", x.soonest(0, 0), TwelveCars.BAD);
        due("16 one who is not", x.soonest(32, 0), TwelveCars.BAD);
        due("16 one far off", x.soonest(1 << 10, 0), TwelveCars.BAD);
        due("16 below 0", x.soonest(Integer.MIN_VALUE, 0), TwelveCars.BAD);
        due("16 how", x.soonest(1, 3), TwelveCars.BAD);
        due("16 how below", x.soonest(1, -1), TwelveCars.BAD);
        x.board(0);
        due("16 one who rides", x.soonest(1, 0), TwelveCars.BAD);
        due("16 only with another who rides", x.soonest(4, 0), TwelveCars.NONE);

        x = with("c5,g5");
        due("16 child with its guest", x.soonest(3, 1), 0);
        due("16 together", x.soonest(3, 2), 0);
        x = with("s20,s20", 20, "t");
        due("16 in order", x.soonest(3, 1), 4);
        due("16 nothing is changed", x.count(3), 3);
    }

    private static void soonestInCarsToCome() {
        // Sand of 20 in car 5: 40 are even in car 11 alone, which comes last.
        TwelveCars x = with("g40", 20, "t;t;t;t;t;s20;t;t;t;t;t;t;t");
        due("16 eleven minutes", x.soonest(1, 0), 11);
        due("17 eleven minutes", x.when(1, 2, 0), 11);
        x.turn(11);
        due("16 it is there now", x.soonest(1, 0), 0);

        // 37 are even in car 1 alone, and that is full till one gets out.
        x = with("g1,g1,g1,g37", 20, "t;i0;i1;i2;t;t;t;t;t;t;s20;t;t;t;t;t");
        due("16 a full car to come", x.soonest(8, 0), TwelveCars.NONE);
        x.turn(1);
        x.leave(0);
        due("16 a seat", x.soonest(8, 0), 0);
        x.turn(11);
        due("16 a seat to come", x.soonest(8, 0), 1);
    }

    private static void when() {
        TwelveCars x = with("s30,g15,g10");
        due("17 one", x.when(2, 0, 1), 0);
        due("17 none", x.when(1, 0, 0), TwelveCars.NONE);
        due("17 none together", x.when(3, 2, 0), TwelveCars.NONE);
        // 0 may not get in ahead of 1; five cars on it just holds, four cars on it does not.
        due("17 any order", x.soonest(3, 0), 5);
        due("17 the heavy one last", x.when(3, 0, 0), 5);
        due("17 the light one first", x.when(3, 0, 1), 0);
        due("17 in order", x.when(3, 1, 1), TwelveCars.NONE);
        due("17 not of the set", x.when(3, 0, 2), TwelveCars.BAD);
        due("17 nobody", x.when(3, 0, 3), TwelveCars.BAD);
        due("17 32 is not 0", x.when(3, 0, 32), TwelveCars.BAD);
        due("17 below", x.when(3, 0, -1), TwelveCars.BAD);
        due("17 how", x.when(3, 3, 0), TwelveCars.BAD);
        due("17 set", x.when(0, 0, 0), TwelveCars.BAD);
        due("17 nothing is changed", x.count(3), 7);

        // Each third of the wheel apart is even, and so is the third one across from where both pull.
        x = with("g10,g10,g10");
        x.limit(10);
        due("17 soonest", x.soonest(7, 0), 6);
        due("17 row 0", x.when(7, 0, 0), 0);
        due("17 row 1", x.when(7, 0, 1), 4);
        due("17 row 2", x.when(7, 0, 2), 6);

        // Of two ways of one minute the one in which 0 gets in first.
        x = with("g9,g9,g9,g9");
        x.limit(99);
        due("17 four", x.soonest(15, 0), 1);
        for (int i = 0; i < 4; i++) {
            due("17 three and one", x.when(15, 0, i), i / 3);
            due("17 three and one in order", x.when(15, 1, i), i / 3);
        }
    }

    /** The document bounds both searches by minutes from now alone, so that minute 999 does not stop them. */
    private static void aheadOfTheLastMinute() {
        TwelveCars x = with("g20,g20,g20");
        for (int i = 0; i < 16; i++) {
            x.turn(60);
        }
        x.turn(39);
        due("16 at minute 999", x.soonest(3, 0), 4);
        x.board(0);
        due("18 at minute 999", x.empty(), 0);
    }

    private static void empty() {
        due("18 nobody rides", new TwelveCars().empty(), 0);
        TwelveCars x = with("g20,g20,c8,s30", 60, "i0;i2;t;i1");
        due("18 the one at the foot later", x.empty(), 11);
        x.turn(11);
        due("18 both within a minute", x.empty(), 1);

        x = with("g15,g15", 20, "i0;t;t;t;t;t;t;i1;s0");
        x.limit(0);
        due("18 not at all: each keeps the other up", x.empty(), TwelveCars.NONE);
        due("18 nothing is changed", x.count(4), 3);

        // 0 may not get out ahead of 1, whose car has just passed the foot: one round and more.
        x = new TwelveCars();
        x.limit(20);
        x.person(0, 30);
        x.person(0, 20);
        x.turn(6);
        x.sand(12);
        x.turn(6);
        due("18 heavy", x.board(0), 1);
        x.turn(6);
        due("18 across", x.board(1), 1);
        x.turn(1);
        due("18 in the next round", x.empty(), 17);
    }

    private static void emptyAtItsEdges() {
        // Two of 15 in car 11 and 30 across: one of the two, then the 30, then the other, rounds apart.
        TwelveCars x = with("g15,g15,g30", 30, "t;t;t;t;t;t;t;t;t;t;t;i0;i1;t;t;t;t;t;t;i2;t;t;t;t;t;t;t");
        x.limit(20);
        due("18 23 minutes", x.empty(), 23);
        x.turn(6);
        due("18 17 minutes", x.empty(), 17);
        x.turn(1);
        due("18 behind car 6", x.empty(), 16);

        // It would be even if the guest got out and the child stayed; but a child rides with another only.
        x = with("g25,c10,g30", 40, "i0;i1;t;t;t;t;t;t;i2;t;t;t;t;t;t");
        x.limit(20);
        due("18 a child does not stay alone", x.empty(), TwelveCars.NONE);
        due("18 nor now", x.may(1), 2);
    }

    private static void least() {
        TwelveCars x = with("g20,g21,c5,g99,g50");
        due("19 none needed", x.least(0, 0), 0);
        due("19 the first car then", x.least(0, 1), 0);
        due("19 one more", x.least(1, 0), 1);
        due("19 straight across", x.least(1, 1), 6);
        due("19 no sand helps a child alone", x.least(2, 0), TwelveCars.NONE);
        due("19 much", x.least(3, 0), 79);
        due("19 across", x.least(3, 1), 6);
        due("19 what", x.least(0, 2), TwelveCars.BAD);
        due("19 what below", x.least(0, -1), TwelveCars.BAD);
        due("19 nobody", x.least(5, 0), TwelveCars.BAD);
        x.turn(6);
        x.sand(20);
        x.turn(6);
        due("19 sand more", x.least(3, 0), 59);
        due("19 nothing is changed", x.count(6), 20);
        x.board(0);
        due("19 one who rides", x.least(0, 0), TwelveCars.BAD);

        // 15 and twice 3 beside it pull by 20.19: one stone from car 4 on to car 8 is enough.
        x = with("g15");
        x.turn(1);
        x.sand(3);
        x.turn(10);
        x.sand(3);
        x.turn(1);
        due("19 one stone", x.least(0, 0), 1);
        due("19 of like ones the first", x.least(0, 1), 4);

        // 99 at most in a car: what is there already leaves less.
        x = new TwelveCars();
        x.limit(0);
        x.sheet(0, 0, 12);
        for (int car = 0; car < 12; car++) {
            x.item(0, 0, car, 90);
        }
        due("19 poured", x.pour(0, 0, 0), 1080);
        x.person(0, 9);
        x.person(0, 10);
        due("19 nine more", x.least(0, 0), 9);
        due("19 across", x.least(0, 1), 6);
        due("19 ten more are too much", x.least(1, 0), TwelveCars.NONE);
        x = with("g99");
        x.limit(0);
        due("19 99", x.least(0, 0), 99);
    }

    private static void sureAndWorst() {
        TwelveCars x = with("g10,g10", 20, "i0;t;t;t;t;t;t;i1");
        due("20 slip below", x.sure(-1), TwelveCars.BAD);
        due("20 slip above", x.sure(10), TwelveCars.BAD);
        due("21 slip below", x.worst(-1, 0), -1 - FAR);
        due("21 slip above", x.worst(10, 0), -1 - FAR);
        due("21 what", x.worst(0, 2), -1 - FAR);
        due("21 what below", x.worst(0, -1), -1 - FAR);
        due("20 known", x.sure(0), 1);
        due("21 known", x.worst(0, 0), 0);
        due("21 five", x.worst(5, 0), 400);
        due("21 five B", x.worst(5, 1), 0);
        due("20 nine", x.sure(9), 1);
        x.limit(17);
        due("20 eighteen apart", x.sure(9), 0);
        due("20 sixteen apart", x.sure(8), 1);

        x = with("g3", 20, "i0");
        due("21 12 stones", x.worst(9, 0), 576);
        x.turn(6);
        x.sand(20);
        due("21 0 at least: sand alone is worst", x.worst(9, 0), 1600);
        due("20 just even", x.sure(9), 1);
        x.sand(21);
        due("20 0 at least", x.sure(9), 0);

        // Cars 0 and 1: the heaviest is the worst; 12 and 12 give 4 and 3 and 1 times 144, and 4 times 144 R.
        x = with("g10,g10", 99, "i0;t;i1");
        due("21 A", x.worst(2, 0), 1152);
        due("21 B", x.worst(2, 1), 576);
        // Cars 0 and 5: B is below 0, yet the heaviest pair is not the worst.
        x = with("g10,g10", 99, "i0;t;t;t;t;t;i1");
        due("21 A", x.worst(2, 0), 4 * 144 + 3 * 64 + 64);
        due("21 B", x.worst(2, 1), -2 * 24 * 8);

        x = with("g1,g1,g1,g1,g1,g1,g1,g1,g1", 99, "i0;i1;i2;t;i3;i4;i5;t;i6;i7");
        due("20 eight ride", x.sure(1), 1);
        CHECK.holds("21 eight ride", x.worst(1, 0) > 0);
        x.board(8);
        due("20 nine ride", x.sure(1), TwelveCars.FULL);
        due("21 nine ride", x.worst(1, 0), -3 - FAR);
        due("20 bad ahead of full", x.sure(10), TwelveCars.BAD);
        due("21 bad ahead of full", x.worst(1, 2), -1 - FAR);
        x.leave(8);
        due("20 one is gone", x.sure(1), 1);
    }

    private static void imageAndRestore() {
        TwelveCars x = with("g5,g6", 30, "i0;s3;t");
        due("23 none", x.restore(), TwelveCars.NONE);
        due("22 image", x.image(), 1);
        x.sheet(2, 1, 7);
        Check.type(x, "s1;t");
        x.person(1, 9);
        x.board(1);
        x.turn(11);
        x.leave(0);
        x.sand(9);
        x.limit(40);
        due("23 restore", x.restore(), 1);
        due("23 people", x.count(0), 2);
        due("23 minute", x.count(1), 1);
        due("23 waits", x.count(3), 2);
        due("23 rides", x.count(4), 1);
        due("23 sand", x.count(6), 3);
        due("23 got in", x.told(0, 3), 0);
        due("23 sheets are as they are", x.drop(2), 7);
        due("23 the tape is as it is", x.evening(), 2);
        due("23 limit", x.limit(20), 30);
        due("23 again", x.restore(), 1);
        due("23 minute again", x.count(1), 1);
        x.turn(5);
        due("22 another in its place", x.image(), 1);
        x.turn(5);
        x.restore();
        due("23 the later one", x.count(1), 6);
        due("23 limit again", x.limit(30), 30);
    }

    private static void pour() {
        TwelveCars x = new TwelveCars();
        due("24 sheet below", x.pour(-1, 0, 0), TwelveCars.BAD);
        due("24 sheet above", x.pour(4, 0, 0), TwelveCars.BAD);
        due("24 lane", x.pour(0, 3, 0), TwelveCars.BAD);
        due("24 lane below", x.pour(0, -1, 0), TwelveCars.BAD);
        due("24 null", x.pour(0, 0, 0), TwelveCars.NULL);
        x.sheet(0, 0, 13);
        due("24 cast ahead of index", x.pour(0, 1, 2), TwelveCars.CAST);
        due("24 index", x.pour(0, 0, 2), TwelveCars.INDEX);
        due("24 index below", x.pour(0, 0, -1), TwelveCars.INDEX);
        due("24 index far", x.pour(0, 0, Integer.MAX_VALUE), TwelveCars.INDEX);
        for (int i = 0; i < 13; i++) {
            x.item(0, 0, i, i == 0 ? 100 : 99);
        }
        due("24 one is 100", x.pour(0, 0, 0), TwelveCars.NOT);
        due("24 all 99", x.pour(0, 0, 1), 1188);
        due("24 sand", x.car(11, 2), 99);
        x.item(0, 0, 4, -1);
        due("24 one below 0", x.pour(0, 0, 1), TwelveCars.NOT);
        x.item(0, 0, 4, 70);
        due("24 not even", x.pour(0, 0, 1), TwelveCars.NOT);
        due("24 nothing is changed", x.count(6), 1188);
        x.item(0, 0, 4, 79);
        due("24 just even", x.pour(0, 0, 1), 1168);
        x.sheet(1, 2, 11);
        due("24 eleven items", x.pour(1, 2, 0), TwelveCars.INDEX);

        // Who rides counts, the sand before does not.
        x = with("g20,g20", 40, "i0;s5");
        x.sheet(0, 2, 24);
        x.item(0, 2, 6, 60);
        due("24 with who rides", x.pour(0, 2, 0), 60);
        x.item(0, 2, 6, 61);
        due("24 one too many", x.pour(0, 2, 0), TwelveCars.NOT);
    }

    private static void film() {
        TwelveCars x = new TwelveCars();
        x.limit(999);
        x.person(0, 99);
        x.person(0, 99);
        x.board(0);
        x.board(1);
        x.sand(60);
        due("25 load", x.car(0, 0), 258);
        due("25 bad", x.film(4, 0, 0), TwelveCars.BAD);
        due("25 lane", x.film(0, 3, 0), TwelveCars.BAD);
        due("25 null", x.film(0, 0, 0), TwelveCars.NULL);
        x.sheet(0, 0, 24);
        x.sheet(1, 2, 12);
        due("25 cast", x.film(0, 2, 20), TwelveCars.CAST);
        due("25 index", x.film(0, 0, 13), TwelveCars.INDEX);
        due("25 index below", x.film(0, 0, -1), TwelveCars.INDEX);
        due("25 film", x.film(0, 0, 12), 12);
        due("25 film of ints", x.film(1, 2, 0), 12);
        due("25 258 is no sand", x.pour(1, 2, 0), TwelveCars.NOT);
        due("25 258 is 2 in a byte", x.pour(0, 0, 12), 2);
        due("25 in car 0", x.car(0, 2), 2);
        x.sheet(2, 0, 12);
        due("25 200", x.film(2, 0, 0), 12);
        due("25 200 is below 0 in a byte", x.pour(2, 0, 0), TwelveCars.NOT);

        x = new TwelveCars();
        due("25 done", Check.evening(x, "s3;t;s4;t;t;t;t;t;t;t;t;t;t;s5;t"), 15);
        x.sheet(0, 1, 24);
        x.film(0, 1, 12);
        x.limit(999);
        due("25 a car each", x.pour(0, 1, 12), 12);
        due("25 car 1", x.car(1, 2), 4);
        due("25 car 11", x.car(11, 2), 5);
        due("25 from one on", x.pour(0, 1, 11), 7);
        due("25 car 1 as the one before it", x.car(1, 2), 3);
    }

    private static void sheetAndDrop() {
        TwelveCars x = new TwelveCars();
        due("26 sheet", x.sheet(4, 0, 1), TwelveCars.BAD);
        due("26 sheet below", x.sheet(-1, 0, 1), TwelveCars.BAD);
        due("26 lane", x.sheet(0, 3, 1), TwelveCars.BAD);
        due("26 lane below", x.sheet(0, -1, 1), TwelveCars.BAD);
        due("26 25", x.sheet(0, 0, 25), TwelveCars.BAD);
        due("26 size", x.sheet(0, 0, -1), TwelveCars.SIZE);
        due("26 bad ahead of size", x.sheet(0, 3, -1), TwelveCars.BAD);
        due("26 refused: still nothing", x.drop(0), TwelveCars.NULL);
        due("26 none", x.sheet(0, 0, 0), 0);
        due("26 24", x.sheet(3, 2, 24), 24);
        x.item(3, 2, 0, 10);
        due("26 a new row", x.sheet(3, 2, 12), 12);
        due("26 of zeros", x.pour(3, 2, 0), 0);
        due("27 bad", x.drop(4), TwelveCars.BAD);
        due("27 below", x.drop(-1), TwelveCars.BAD);
        due("27 drop", x.drop(3), 12);
        due("27 null", x.drop(3), TwelveCars.NULL);
        due("27 of no items", x.drop(0), 0);
        due("27 null then", x.item(3, 2, 0, 0), TwelveCars.NULL);
    }

    private static void item() {
        TwelveCars x = new TwelveCars();
        x.sheet(1, 1, 12);
        due("28 sheet", x.item(4, 1, 0, 0), TwelveCars.BAD);
        due("28 lane", x.item(1, 3, 0, 0), TwelveCars.BAD);
        due("28 null", x.item(0, 1, 0, 0), TwelveCars.NULL);
        due("28 cast", x.item(1, 0, 99, 0), TwelveCars.CAST);
        due("28 index", x.item(1, 1, 12, 0), TwelveCars.INDEX);
        due("28 index below", x.item(1, 1, -1, 0), TwelveCars.INDEX);
        due("28 index far", x.item(1, 1, Integer.MAX_VALUE, 0), TwelveCars.INDEX);
        due("28 lowest bits of a short", x.item(1, 1, 0, 65536 + 5), 1);
        due("28 five", x.pour(1, 1, 0), 5);
        due("28 with its sign", x.item(1, 1, 0, 65535), 1);
        due("28 -1", x.pour(1, 1, 0), TwelveCars.NOT);
        x.sheet(2, 0, 12);
        x.item(2, 0, 0, 256 + 7);
        due("28 lowest bits of a byte", x.pour(2, 0, 0), 7);
        x.sheet(3, 2, 12);
        x.item(3, 2, 0, 65536 + 5);
        due("28 all bits of an int", x.pour(3, 2, 0), TwelveCars.NOT);
    }

    private static void copy() {
        TwelveCars x = new TwelveCars();
        x.limit(999);
        x.sheet(0, 1, 14);
        x.sheet(1, 1, 12);
        x.sheet(2, 2, 12);
        due("29 from", x.copy(4, 0, 0, 0, 0), TwelveCars.BAD);
        due("29 to", x.copy(0, 0, -1, 0, 0), TwelveCars.BAD);
        due("29 null from", x.copy(3, 0, 0, 0, 0), TwelveCars.NULL);
        due("29 null to ahead of index", x.copy(0, -1, 3, 0, 0), TwelveCars.NULL);
        due("29 cast ahead of index", x.copy(0, -1, 2, 0, 1), TwelveCars.CAST);
        due("29 n below 0", x.copy(0, 0, 1, 0, -1), TwelveCars.INDEX);
        due("29 none", x.copy(0, 14, 1, 12, 0), 0);
        due("29 none above", x.copy(0, 15, 1, 0, 0), TwelveCars.INDEX);
        due("29 none above there", x.copy(0, 0, 1, 13, 0), TwelveCars.INDEX);
        due("29 none below", x.copy(0, -1, 1, 0, 0), TwelveCars.INDEX);
        due("29 none below there", x.copy(0, 0, 1, -1, 0), TwelveCars.INDEX);
        due("29 too many", x.copy(0, 12, 1, 0, 3), TwelveCars.INDEX);
        due("29 too many there", x.copy(0, 0, 1, 10, 3), TwelveCars.INDEX);
        due("29 far", x.copy(0, 1, 1, 1, Integer.MAX_VALUE), TwelveCars.INDEX);
        for (int i = 0; i < 14; i++) {
            x.item(0, 1, i, i + 1);
        }
        due("29 copy", x.copy(0, 2, 1, 0, 12), 12);
        due("29 came", x.pour(1, 1, 0), 102);
        due("29 in order", x.car(0, 2), 3);
        due("29 forwards over itself", x.copy(0, 0, 0, 2, 12), 12);
        due("29 as if all were taken ahead", x.pour(0, 1, 2), 78);
        due("29 the last", x.car(11, 2), 12);
        due("29 backwards over itself", x.copy(0, 2, 0, 1, 12), 12);
        due("29 as before", x.pour(0, 1, 1), 78);
        due("29 the first", x.car(0, 2), 1);
    }
}
