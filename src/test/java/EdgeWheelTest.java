/** The ends that the document names for people, cars, sand, limit, minute, and what happens (promises 1 to 6, 10 to 15). */
public final class EdgeWheelTest {
    private static final int BAD = TwelveCars.BAD, NOT = TwelveCars.NOT, FULL = TwelveCars.FULL, NONE = TwelveCars.NONE;
    private static final int FAR_BAD = -100000001;
    private static final Check CHECK = new Check();

    public static void main(String[] args) {
        numbersOfRefusals();
        refusalsFarBelow();
        setsAreBits();
        calls512();
        twelveCars();
        waitRideGone();
        whatHappensAtTheFoot();
        footAtFirst();
        zeroBehindEleven();
        minuteAtMost();
        numbersOfPeople();
        tenPeople();
        weights();
        kinds();
        seats();
        fits();
        stoutOnes();
        children();
        goats();
        sandInACar();
        loads();
        corners();
        square();
        limitAtFirst();
        limits();
        evenIsNoMoreThan();
        evenByTheRootAlone();
        evenAtLimitZero();
        evenAtTheGreatestLimit();
        evenByAHair();
        turnAlwaysMay();
        turns();
        newObject();
        toldOfPeople();
        toldWhat();
        cars();
        limitRefused();
        outWhat();
        counts();
        boardSeats();
        boardWhoDoesNotWait();
        boardMayNot();
        leaveMinutes();
        leaveWhoDoesNotRideAtTheFoot();
        leaveMayNot();
        sandAtTheFoot();
        mayGetInAlone();
        mayGetOutAlone();
        mayWhat();
        CHECK.end();
    }

    private static void due(String call, long got, long want) {
        CHECK.due(call, got, want);
    }

    private static void numbersOfRefusals() {
        CHECK.says("BAD -1 (a number is not as told, or names nothing), NOT -2 (as told), FULL -3, NONE -4 (as told), CAST -12");
        due("BAD", TwelveCars.BAD, -1);
        due("NOT", TwelveCars.NOT, -2);
        due("FULL", TwelveCars.FULL, -3);
        due("NONE", TwelveCars.NONE, -4);
        due("CAST", TwelveCars.CAST, -12);
        CHECK.says("NULL -11, INDEX -13, SIZE -14");
        due("NULL", TwelveCars.NULL, -11);
        due("INDEX", TwelveCars.INDEX, -13);
        due("SIZE", TwelveCars.SIZE, -14);
    }

    private static void refusalsFarBelow() {
        CHECK.says("Where a told thing may be below 0, refused ones are 100000000 less (-100000001 and so on).");
        TwelveCars x = Scene.of("g1,g1,g1,g1,g1,g1,g1,g1,g1", 20, "i0;i1;i2;t;i3;i4;i5;t;i6;i7;i8");
        due("out", x.out(6), -100000001);
        due("worst, BAD", x.worst(10, 0), -100000001);
        due("worst, FULL", x.worst(0, 0), -100000003);
        due("sure is never below 0", x.sure(0), -3);
        x = Scene.ofSand(999, 99, 0, 0, 0, 0, 99);
        due("told, though below 0", x.out(5), -2 * 198 * 99);
    }

    private static void setsAreBits() {
        CHECK.says("Sets are bits.");
        TwelveCars x = Scene.of("g1,g1,g1,g1,g1,g1,g1,g1,g1,g1");
        for (int one = 0; one < 10; one++) {
            due("who waits", x.count(3), 1024 - (1 << one));
            due("who may get in", x.may(0), 1024 - (1 << one));
            due("one by himself", x.soonest(1 << one, 0), 0);
            x.board(one);
            due("who rides", x.count(4), 1 << one);
            due("who rides in a car", x.car(0, 3), 1 << one);
            due("who may get out", x.may(1), 1 << one);
            x.leave(one);
            due("who is gone", x.count(5), (2 << one) - 1);
        }
    }

    private static void calls512() {
        CHECK.says("An object is used for at most 512 calls after it has been made");
        TwelveCars x = new TwelveCars();
        for (int call = 1; call <= 510; call += 2) {
            x.image();
            x.type('t', 1);
        }
        due("the 511th", x.type('t', 1), FULL);
        due("the 512th", x.evening(), -21);
        x = new TwelveCars();
        for (int call = 1; call <= 512; call++) {
            due("the turn of call " + call, x.turn(1), call);
        }
    }

    private static void twelveCars() {
        CHECK.says("CARS 0 .. 11 hang round a wheel");
        TwelveCars x = new TwelveCars();
        for (int car = 0; car < 12; car++) {
            due("sand", x.sand(1), 0);
            due("car " + car, x.car(car, 0), 1);
            due("so many have sand", x.count(6), car + 1);
            x.turn(1);
        }
        due("the first one again", x.sand(2), 1);
        due("car 12", x.car(12, 0), BAD);
        due("car -1", x.car(-1, 0), BAD);
    }

    private static void waitRideGone() {
        CHECK.says("wait, ride in a car, or are gone (who got out)");
        TwelveCars x = Scene.of("g5");
        due("waits", x.count(3) * 100 + x.count(4) * 10 + x.count(5), 100);
        x.board(0);
        due("rides", x.count(3) * 100 + x.count(4) * 10 + x.count(5), 10);
        x.leave(0);
        due("is gone", x.count(3) * 100 + x.count(4) * 10 + x.count(5), 1);
        due("and does not come again", x.board(0), BAD);
        due("nor may", x.may(0), 0);
        due("nor get out again", x.leave(0), BAD);
    }

    private static void whatHappensAtTheFoot() {
        CHECK.says("one who waits GETS IN (the car at the foot), one who rides in it GETS OUT, SAND of it becomes so much, a TURN");
        for (int minute = 0; minute < 25; minute++) {
            TwelveCars x = Scene.turnedTo(minute, Scene.of("g3,g4"));
            x.board(1);
            x.sand(7);
            due("he rides there", x.car(minute % 12, 3), 2);
            due("sand is there", x.car(minute % 12, 2), 7);
            due("both weigh", x.car(minute % 12, 0), 11);
            due("no other car has sand", x.count(6), 7);
            due("he gets out", x.leave(1), 0);
            due("nobody rides there", x.car(minute % 12, 3), 0);
        }
    }

    private static void footAtFirst() {
        CHECK.says("car 0 is at the foot at first");
        TwelveCars x = Scene.of("g5");
        due("foot", x.count(2), 0);
        x.board(0);
        due("he rides in", x.told(0, 2), 0);
    }

    private static void zeroBehindEleven() {
        CHECK.says("by a TURN the next car by numbers (0 behind 11) comes to the foot");
        TwelveCars x = new TwelveCars();
        for (int turns = 1; turns <= 25; turns++) {
            x.turn(1);
            due("foot behind " + turns, x.count(2), turns % 12);
        }
        for (int n = 1; n <= 60; n++) {
            x = Scene.atMinute(11);
            x.turn(n);
            due("foot behind 11 and " + n, x.count(2), (11 + n) % 12);
        }
        x = Scene.of("g1,g2,g3");
        Scene.happens(x, "t;t;t;t;t;t;t;t;t;t;t;i0;t;i1;t;i2");
        due("at 11", x.told(0, 2), 11);
        due("at 12", x.told(1, 2), 0);
        due("at 13", x.told(2, 2), 1);
        due("999 is 83 rounds and 3", Scene.atMinute(999).count(2), 3);
    }

    private static void minuteAtMost() {
        CHECK.says("It is MINUTE 0 at first, by a TURN one more (999 at most)");
        due("at first", new TwelveCars().count(1), 0);
        due("one more", Scene.atMinute(1).count(1), 1);
        TwelveCars x = Scene.atMinute(998);
        due("two above", x.turn(2), FULL);
        due("the last", x.turn(1), 999);
        due("none more", x.turn(1), FULL);
        due("nor many", x.turn(60), FULL);
        due("stays", x.count(1), 999);
        due("foot stays", x.count(2), 3);
        due("60 to 999", Scene.atMinute(939).turn(60), 999);
        due("60 to 1000", Scene.atMinute(940).turn(60), FULL);
        due("59 to 999", Scene.atMinute(940).turn(59), 999);
    }

    private static void numbersOfPeople() {
        CHECK.says("PEOPLE 0 .. 9, as they come");
        TwelveCars x = new TwelveCars();
        for (int i = 0; i < 10; i++) {
            due("nobody has the number yet", x.told(i, 1), BAD);
            due("number", x.person(0, 10 + i), i);
            due("weight", x.told(i, 1), 10 + i);
        }
        x = Scene.of("g1,g2,g3");
        due("behind those of a text", x.person(0, 4), 3);
        due("the text's keep theirs", x.told(2, 1), 3);
    }

    private static void tenPeople() {
        CHECK.says("One of PEOPLE: the number. BAD; FULL: 10.");
        TwelveCars x = Scene.of("g1,g1,g1,g1,g1,g1,g1,g1,g1");
        due("the tenth", x.person(3, 99), 9);
        due("no eleventh", x.person(0, 1), FULL);
        due("ten still", x.count(0), 10);
        x.board(0);
        x.leave(0);
        due("who is gone keeps his number", x.person(0, 1), FULL);
        due("all but him wait", x.count(3), 1022);
    }

    private static void weights() {
        CHECK.says("have a WEIGHT (1 .. 99)");
        for (int kind = 0; kind < 4; kind++) {
            TwelveCars x = new TwelveCars();
            due("0", x.person(kind, 0), BAD);
            due("100", x.person(kind, 100), BAD);
            due("-1", x.person(kind, -1), BAD);
            for (int far : Check.FAR_OFF) {
                due("far off", x.person(kind, far), BAD);
                due("far off by one", x.person(kind, far + 1), BAD);
            }
            due("nobody has come", x.count(0), 0);
            due("1", x.person(kind, 1), 0);
            due("99", x.person(kind, 99), 1);
            due("told 1", x.told(0, 1), 1);
            due("told 99", x.told(1, 1), 99);
        }
    }

    private static void kinds() {
        CHECK.says("KINDS: 0 GUEST (takes a seat); below it 1 CHILD");
        TwelveCars x = new TwelveCars();
        due("-1", x.person(-1, 5), BAD);
        due("4", x.person(4, 5), BAD);
        for (int far : Check.FAR_OFF) {
            due("far off", x.person(far, 5), BAD);
        }
        for (int kind = 0; kind < 4; kind++) {
            due("taken", x.person(kind, 5), kind);
            due("told", x.told(kind, 0), kind);
        }
        due("four have come", x.count(0), 4);
    }

    /** What the last of these answers who get in one behind the other. */
    private static int lastIn(String kinds) {
        TwelveCars x = new TwelveCars();
        for (int i = 0; i < kinds.length(); i++) {
            x.person("gcsb".indexOf(kinds.charAt(i)), 1);
        }
        for (int i = 0; i < kinds.length() - 1; i++) {
            Scene.must(kinds, x.board(i) > 0);
        }
        return x.board(kinds.length() - 1);
    }

    private static void seats() {
        CHECK.says("A car has 3 seats");
        due("guest", lastIn("g"), 1);
        due("guest and child", lastIn("gc"), 2);
        due("stout", lastIn("s"), 2);
        due("goat", lastIn("b"), 2);
        String[] three = {"ggg", "ggc", "gcg", "gcc", "gs", "sg", "sc", "gb", "bg"};
        for (String kinds : three) {
            due(kinds, lastIn(kinds), 3);
        }
        String[] four = {"gggg", "gggc", "gccc", "gccg", "ggs", "gcs", "gsg", "sgg", "sgc", "scc", "ss", "sb", "bs", "bb", "ggb",
            "bgg", "gbg"};
        for (String kinds : four) {
            due(kinds, lastIn(kinds), NOT);
        }
        String[] five = {"gggs", "gsb", "sgs", "bgb"};
        for (String kinds : five) {
            due(kinds, lastIn(kinds), NOT);
        }
    }

    private static void fits() {
        CHECK.says("FITS: a car in which no more than 3 seats are taken and each KIND rides as it may.");
        due("too many seats, none who may not", lastIn("sgg"), NOT);
        due("few seats, one who may not", lastIn("c"), NOT);
        due("three seats, one who may not", lastIn("bc"), NOT);
        due("four seats, and one who may not", lastIn("bgc"), NOT);
        due("three seats, all as they may", lastIn("sc"), 3);
    }

    private static void stoutOnes() {
        CHECK.says("2 STOUT (takes two seats)");
        TwelveCars x = Scene.of("s1,g1,g1", 20, "i0");
        due("two", x.car(0, 1), 2);
        due("a third", x.board(1), 3);
        due("no fourth", x.board(2), NOT);
        due("he gives two", x.leave(0), 0);
        due("one is left", x.car(0, 1), 1);
        due("there is place again", x.board(2), 2);
    }

    private static void children() {
        CHECK.says("1 CHILD (rides only where one who is no CHILD rides, too)");
        due("alone", lastIn("c"), NOT);
        due("with a guest", lastIn("gc"), 2);
        due("with a stout one", lastIn("sc"), 3);
        due("a guest in another car is none", Check.evening(Scene.of("g5,c5"), "i0;t;i1"), 2);
        TwelveCars x = Scene.of("g5,c5,c5,g5", 20, "i0;i1;i2");
        due("two children would stay", x.leave(0), NOT);
        due("a child may go", x.leave(1), 0);
        due("one child would stay", x.leave(0), NOT);
        due("another guest", x.board(3), 3);
        due("one of two guests may go", x.leave(0), 0);
        due("the other may not", x.leave(3), NOT);
        due("the child", x.leave(2), 0);
        due("with no child he may", x.leave(3), 0);
        x = Scene.of("s5,c5", 20, "i0;i1");
        due("nor the stout one", x.leave(0), NOT);
    }

    private static void goats() {
        CHECK.says("3 GOAT (below STOUT; rides only where no CHILD does)");
        due("child to goat", lastIn("bc"), NOT);
        due("guest to goat", lastIn("bg"), 3);
        due("goat alone", lastIn("b"), 2);
        TwelveCars x = Scene.of("c5,b5");
        due("nor both at once", x.soonest(3, 2), NONE);
        due("nor elsewhere", x.soonest(3, 0), NONE);
        x = Scene.of("b5,g5,c5", 20, "i0;t;i1;i2");
        due("a child in another car is none", x.count(4), 7);
    }

    private static void sandInACar() {
        CHECK.says("may have SAND (0 .. 99)");
        TwelveCars x = new TwelveCars();
        x.limit(999);
        due("-1", x.sand(-1), BAD);
        due("100", x.sand(100), BAD);
        for (int far : Check.FAR_OFF) {
            due("far off", x.sand(far), BAD);
        }
        due("99", x.sand(99), 0);
        due("it is there", x.car(0, 2), 99);
        due("0", x.sand(0), 99);
        due("it is gone", x.car(0, 2), 0);
    }

    private static void loads() {
        CHECK.says("LOAD of a car: WEIGHTS of who rides in it, and SAND.");
        TwelveCars x = Scene.of("g99,g99,g99,g99", 999, "i0;i1;i2;s99;t");
        due("as much as can be", x.car(0, 0), 396);
        due("who waits is in none", x.car(1, 0), 0);
        x.turn(11);
        x.leave(1);
        due("nor who is gone", x.car(0, 0), 297);
        x.sand(0);
        due("nor sand that is gone", x.car(0, 0), 198);
    }

    private static void corners() {
        CHECK.says("of twice LOAD times the cosine, the sine of 30 degrees times the number of the car all together are p and q R, "
            + "s and t R (p, q, s, t whole)");
        CHECK.says("twice the cosines are 2, R, 1, 0, -1, -R, -2, -R, -1, 0, 1, R for cars 0 .. 11, "
            + "twice the sines 0, 1, R, 2, R, 1, 0, -1, -R, -2, -R, -1");
        int[][] told = {{2, 0, 0, 0}, {0, 1, 1, 0}, {1, 0, 0, 1}, {0, 0, 2, 0}, {-1, 0, 0, 1}, {0, -1, 1, 0},
            {-2, 0, 0, 0}, {0, -1, -1, 0}, {-1, 0, 0, -1}, {0, 0, -2, 0}, {1, 0, 0, -1}, {0, 1, -1, 0}};
        for (int car = 0; car < 12; car++) {
            TwelveCars x = Scene.of("g7");
            Scene.turnedTo(car, x);
            x.board(0);
            Scene.turnedTo(car + 5, x);
            for (int what = 0; what < 4; what++) {
                due("car " + car + ", " + what, x.out(what), 7 * told[car][what]);
            }
        }
    }

    private static void square() {
        CHECK.says("THE SQUARE is p p and 3 q q and s s and 3 t t, and R times twice (p q and s t): A and B R.");
        TwelveCars x = Scene.ofSand(999, 1, 2, 0, 0, 3);
        due("p", x.out(0), 2 - 3);
        due("q", x.out(1), 2);
        due("s", x.out(2), 2);
        due("t", x.out(3), 3);
        due("A", x.out(4), 1 + 3 * 4 + 4 + 3 * 9);
        due("B", x.out(5), 2 * (-2 + 6));
        x = Scene.ofSand(999, 5, 0, 0, 0, 0, 4);
        due("B below 0", x.out(5), -2 * 40);
        x = Scene.ofSand(999, 99, 99, 99, 99, 0, 0, 0, 0, 0, 0, 99, 99);
        due("great A", x.out(4), 396 * 396 + 3 * 198 * 198 + 198 * 198);
        due("great B", x.out(5), 2 * 396 * 198);
    }

    private static void limitAtFirst() {
        CHECK.says("LIMIT 0 .. 999; 20 at first");
        due("at first", new TwelveCars().limit(5), 20);
        due("20 stones hold", new TwelveCars().sand(20), 0);
        due("21 do not", new TwelveCars().sand(21), NOT);
    }

    private static void limits() {
        CHECK.says("LIMIT: what it was. BAD");
        TwelveCars x = new TwelveCars();
        due("-1", x.limit(-1), BAD);
        due("1000", x.limit(1000), BAD);
        for (int far : Check.FAR_OFF) {
            due("far off", x.limit(far == 256 ? 1256 : far), BAD);
        }
        due("999", x.limit(999), 20);
        due("0", x.limit(0), 999);
        due("0 it was", x.limit(20), 0);
    }

    private static void evenIsNoMoreThan() {
        CHECK.says("It is EVEN, if THE SQUARE is no more than 4 times LIMIT times LIMIT");
        for (int limit = 1; limit <= 99; limit += 7) {
            for (int car = 0; car < 12; car++) {
                TwelveCars x = Scene.atMinute(car);
                x.limit(limit);
                due("just so much in car " + car, x.sand(limit), 0);
                due("one more", x.sand(limit + 1), limit + 1 > 99 ? BAD : NOT);
            }
        }
        TwelveCars x = Scene.ofSand(999, 30, 0, 0, 40);
        due("3, 4, 5: one less", x.limit(49), NOT);
        due("3, 4, 5", x.limit(50), 999);
        x = Scene.ofSand(999, 50, 0, 50);
        due("p 150, t 50, no R: 86.6", x.limit(86), NOT);
        due("87", x.limit(87), 999);
    }

    /** A alone is just 4 times LIMIT times LIMIT, so that the sign of B decides. */
    private static void evenByTheRootAlone() {
        CHECK.says("R times twice (p q and s t): A and B R. It is EVEN, if THE SQUARE is no more than 4 times LIMIT times LIMIT");
        TwelveCars x = Scene.ofSand(999, 3, 0, 0, 0, 0, 4);
        due("A", x.out(4), 100);
        due("B below 0", x.out(5), -48);
        due("less than 4 times 5 times 5", x.limit(5), 999);
        x = Scene.ofSand(999, 3, 4);
        due("A", x.out(4), 100);
        due("B above 0", x.out(5), 48);
        due("more than 4 times 5 times 5", x.limit(5), NOT);
        x = Scene.ofSand(999, 3, 0, 0, 4);
        due("A", x.out(4), 100);
        due("no B", x.out(5), 0);
        due("just 4 times 5 times 5", x.limit(5), 999);
    }

    private static void evenAtLimitZero() {
        CHECK.says("THE SQUARE is no more than 4 times LIMIT times LIMIT");
        int[][] even = {{}, {1, 0, 0, 0, 0, 0, 1}, {0, 7, 0, 0, 0, 0, 0, 7}, {99, 0, 0, 0, 99, 0, 0, 0, 99},
            {0, 5, 0, 0, 0, 5, 0, 0, 0, 5}, {9, 0, 0, 9, 0, 0, 9, 0, 0, 9}, {99, 99, 99, 99, 99, 99, 99, 99, 99, 99, 99, 99},
            {31, 30, 31, 30, 31, 30, 31, 30, 31, 30, 31, 30}, {5, 0, 3, 0, 5, 0, 3, 0, 5, 0, 3}};
        for (int[] sands : even) {
            due("even to the last stone", Scene.ofSand(999, sands).limit(0), 999);
        }
        int[][] odd = {{1}, {0, 1}, {0, 0, 0, 1}, {2, 0, 0, 0, 0, 0, 1}, {99, 0, 0, 0, 99, 0, 0, 0, 98}, {1, 0, 0, 1, 0, 0, 1},
            {7, 0, 0, 0, 0, 12}, {99, 99, 99, 99, 99, 99, 99, 99, 99, 99, 99, 98}};
        for (int[] sands : odd) {
            due("not even", Scene.ofSand(999, sands).limit(0), NOT);
        }
        due("a stone's limit", Scene.ofSand(999, 99, 99, 99, 99, 99, 99, 99, 99, 99, 99, 99, 98).limit(1), 999);
    }

    private static void evenAtTheGreatestLimit() {
        CHECK.says("(LIMIT 0 .. 999; 20 at first)");
        String people = "g99,g99,g99,g99,g99,g99,g99,g99,g99";
        TwelveCars x = Scene.of(people, 999, "i0;i1;i2;s94;t;i3;i4;i5;s44;t;t;t;t;t;t;t;t;t;t;i6;i7;i8");
        due("less by one than 4 times 999 times 999", x.sand(64), 0);
        due("thousands more", x.sand(65), NOT);
        due("A", x.out(4), 782 * 782 + 3 * 702 * 702 + 20 * 20);
        due("B", x.out(5), 2 * 782 * 702);
        due("998", x.limit(998), NOT);
        x = Scene.of(people, 999, "i0;i1;i2;s77;t;i3;i4;i5;s29;t;t;t;t;t;t;t;t;t;t;i6;i7;i8");
        due("more by two than 4 times 999 times 999", x.sand(98), NOT);
        due("thousands less", x.sand(97), 0);
    }

    private static void evenByAHair() {
        CHECK.says("how far it is out of true, exactly, by corners of twelve");
        // The convergents of the root of three make squares that lie by thousandths from a whole one.
        due("below 4 times 110 times 110", Scene.ofSand(999, 71, 41, 0, 7).limit(110), 999);
        due("109", Scene.ofSand(999, 71, 41, 0, 7).limit(109), NOT);
        due("above 4 times 124 times 124", Scene.ofSand(999, 62, 31, 0, 71).limit(124), NOT);
        due("125", Scene.ofSand(999, 62, 31, 0, 71).limit(125), 999);
    }

    private static void turnAlwaysMay() {
        CHECK.says("(a TURN always may)");
        TwelveCars x = Scene.ofSand(0, 9, 9, 9, 9, 9, 9, 9, 9, 9, 9, 9, 9);
        for (int i = 1; i <= 13; i++) {
            due("at limit 0", x.turn(1), i);
        }
        x = Scene.of("g20,c1", 21, "i0;i1");
        due("with a car that is just even", Check.evening(x, "t;t"), 2);
    }

    private static void turns() {
        CHECK.says("n TURNS (1 .. 60): MINUTE. BAD; FULL: it would be above 999.");
        TwelveCars x = new TwelveCars();
        due("0", x.turn(0), BAD);
        due("61", x.turn(61), BAD);
        due("-1", x.turn(-1), BAD);
        for (int far : Check.FAR_OFF) {
            due("far off", x.turn(far), BAD);
            due("far off by one", x.turn(far + 1), BAD);
        }
        due("none was", x.count(1), 0);
        due("1", x.turn(1), 1);
        due("60", x.turn(60), 61);
    }

    private static void newObject() {
        CHECK.says("An empty wheel, nobody waits.");
        TwelveCars x = new TwelveCars();
        for (int what = 0; what <= 6; what++) {
            due("count " + what, x.count(what), 0);
        }
        for (int car = 0; car < 12; car++) {
            for (int what = 0; what < 4; what++) {
                due("car " + car + ", " + what, x.car(car, what), 0);
            }
        }
        for (int what = 0; what < 6; what++) {
            due("out " + what, x.out(what), 0);
        }
        due("nobody may get in", x.may(0), 0);
        due("nobody may get out", x.may(1), 0);
        due("nobody is to get out", x.empty(), 0);
        due("no image", x.restore(), NONE);
        due("an empty tape", x.type('t', 1), 1);
        for (int sheet = 0; sheet < 4; sheet++) {
            due("no sheet", x.drop(sheet), TwelveCars.NULL);
        }
    }

    private static void toldOfPeople() {
        CHECK.says("Of one: 0 KIND, 1 WEIGHT, 2 the car he rides in (12: he waits, 13: he is gone)");
        TwelveCars x = Scene.of("b9,g8");
        for (int what = 0; what < 4; what++) {
            due("two have come", x.told(2, what), BAD);
            due("-1", x.told(-1, what), BAD);
            for (int far : Check.FAR_OFF) {
                due("far off", x.told(far, what), BAD);
            }
        }
        Scene.turnedTo(11, x);
        due("waits", x.told(0, 2), 12);
        x.board(0);
        due("the last car", x.told(0, 2), 11);
        due("the other waits", x.told(1, 2), 12);
        x.leave(0);
        due("gone", x.told(0, 2), 13);
        CHECK.says("3 in which MINUTE he got in (NONE: he has not)");
        due("he has", x.told(0, 3), 11);
        due("the other has not", x.told(1, 3), NONE);
        x = Scene.of("g21,g1", 20, "i1");
        due("in MINUTE 0", x.told(1, 3), 0);
        due("refused", x.board(0), NOT);
        due("he has not", x.told(0, 3), NONE);
        x = Scene.of("g1");
        Scene.turnedTo(999, x);
        x.board(0);
        due("in the last MINUTE", x.told(0, 3), 999);
        Check.people(x, "g1");
        due("another one of that number", x.told(0, 3), NONE);
    }

    private static void toldWhat() {
        CHECK.says("0 KIND, 1 WEIGHT, 2 the car he rides in");
        TwelveCars x = Scene.of("s4");
        due("what -1", x.told(0, -1), BAD);
        due("what 4", x.told(0, 4), BAD);
        for (int far : Check.FAR_OFF) {
            due("far off", x.told(0, far), BAD);
        }
        due("what 0", x.told(0, 0), 2);
        due("what 1", x.told(0, 1), 4);
        due("what 2", x.told(0, 2), 12);
        due("what 3", x.told(0, 3), NONE);
    }

    private static void cars() {
        CHECK.says("Of a car: 0 LOAD, 1 seats taken, 2 SAND, 3 who rides (a set). BAD.");
        TwelveCars x = Scene.of("g1,g1,g1,g1,g1,g1,g1,g1,s1,g1", 20, "i9;i8;s5;t;t;t;t;t;t;t;t;t;t;t;i0;s3");
        due("car 0 LOAD", x.car(0, 0), 7);
        due("car 0 seats", x.car(0, 1), 3);
        due("car 0 SAND", x.car(0, 2), 5);
        due("car 0 who", x.car(0, 3), 512 + 256);
        due("car 11 LOAD", x.car(11, 0), 4);
        due("car 11 seats", x.car(11, 1), 1);
        due("car 11 SAND", x.car(11, 2), 3);
        due("car 11 who", x.car(11, 3), 1);
        for (int what = 0; what < 4; what++) {
            due("car -1", x.car(-1, what), BAD);
            due("car 12, where they wait", x.car(12, what), BAD);
            due("car 13, where they are gone", x.car(13, what), BAD);
            for (int far : Check.FAR_OFF) {
                due("far off", x.car(far, what), BAD);
            }
        }
        due("what -1", x.car(0, -1), BAD);
        due("what 4", x.car(0, 4), BAD);
        for (int far : Check.FAR_OFF) {
            due("far off", x.car(0, far), BAD);
        }
    }

    private static void limitRefused() {
        CHECK.says("BAD; NOT: the wheel would not be EVEN.");
        TwelveCars x = Scene.of("g10", 20, "i0");
        due("9", x.limit(9), NOT);
        due("0", x.limit(0), NOT);
        due("it is 20 still", x.limit(10), 20);
        due("10 is just even", x.limit(999), 10);
    }

    private static void outWhat() {
        CHECK.says("OUT OF TRUE: p (0), q (1), s (2), t (3), A (4), B (5). BAD less 100000000.");
        TwelveCars x = Scene.ofSand(999, 0, 0, 0, 0, 0, 0, 1, 2, 3);
        int[] told = {-2 - 3, -2, -2, -3, 25 + 12 + 4 + 27, 2 * (10 + 6)};
        for (int what = 0; what < 6; what++) {
            due("out " + what, x.out(what), told[what]);
        }
        due("-1", x.out(-1), FAR_BAD);
        due("6", x.out(6), FAR_BAD);
        for (int far : Check.FAR_OFF) {
            due("far off", x.out(far), FAR_BAD);
        }
        // A q or s of -1 is an answer, not a refusal.
        x = Scene.ofSand(999, 0, 0, 0, 0, 0, 0, 0, 1);
        due("q of -1", x.out(1), -1);
        due("s of -1", x.out(2), -1);
    }

    private static void counts() {
        CHECK.says("How many: 0 PEOPLE, 1 MINUTE, 2 the car at the foot, 3 who waits, 4 who rides, 5 who is gone (sets), "
            + "6 SAND together. BAD.");
        TwelveCars x = Scene.of("g1,g1,g1,g1,g1,g1,g1,g1,g1,g1");
        due("ten", x.count(0), 10);
        due("all wait", x.count(3), 1023);
        Scene.happens(x, "i9;i0;t;i8;o8;s9");
        due("minute", x.count(1), 1);
        due("foot", x.count(2), 1);
        due("wait", x.count(3), 1023 - 512 - 256 - 1);
        due("ride", x.count(4), 512 + 1);
        due("gone", x.count(5), 256);
        due("sand", x.count(6), 9);
        due("-1", x.count(-1), BAD);
        due("7", x.count(7), BAD);
        for (int far : Check.FAR_OFF) {
            due("far off", x.count(far), BAD);
        }
        due("sand of all", Scene.ofSand(0, 99, 99, 99, 99, 99, 99, 99, 99, 99, 99, 99, 99).count(6), 1188);
        x = Scene.of("g1,g1", 20, "i0;i1;o0;o1");
        due("nobody waits", x.count(3), 0);
        due("nobody rides", x.count(4), 0);
        due("all are gone", x.count(5), 3);
        due("they are PEOPLE still", x.count(0), 2);
    }

    private static void boardSeats() {
        CHECK.says("One GETS IN: seats taken then.");
        TwelveCars x = Scene.of("g1,c1,g1,s1,g1");
        due("one", x.board(0), 1);
        due("two", x.board(1), 2);
        due("three", x.board(2), 3);
        due("five", x.board(3), NOT);
        due("four", x.board(4), NOT);
        x.turn(1);
        due("another car", x.board(3), 2);
        due("its third", x.board(4), 3);
        due("the last to the full car again", Check.evening(x, "t;t;t;t;t;t;t;t;t;t;t"), 11);
        due("car 0 has them", x.car(0, 3), 7);
    }

    private static void boardWhoDoesNotWait() {
        CHECK.says("BAD: also one who does not wait; NOT: it may not be.");
        TwelveCars x = Scene.of("g1,g1,g1", 20, "i0;i1;o1");
        due("who rides", x.board(0), BAD);
        due("who is gone", x.board(1), BAD);
        due("nobody", x.board(3), BAD);
        due("-1", x.board(-1), BAD);
        for (int far : Check.FAR_OFF) {
            due("far off", x.board(far), BAD);
        }
        x.turn(1);
        due("who rides elsewhere", x.board(0), BAD);
        due("who waits", x.board(2), 1);
    }

    private static void boardMayNot() {
        CHECK.says("It MAY be, if behind it the car at the foot FITS and the wheel is EVEN");
        TwelveCars x = Scene.of("g20,g21,g1");
        due("21", x.board(1), NOT);
        due("20", x.board(0), 1);
        due("1 more", x.board(2), NOT);
        x.turn(6);
        due("across it may", x.board(2), 1);
        due("39 against 20 and 1", x.board(1), 2);
        due("all ride", x.count(4), 7);
    }

    private static void leaveMinutes() {
        CHECK.says("One GETS OUT: how many MINUTES he rode.");
        TwelveCars x = Scene.of("g1,g1,g1", 20, "i0;i1;t;i2");
        x.turn(11);
        due("a round", x.leave(0), 12);
        x.turn(12);
        due("two rounds", x.leave(1), 24);
        x.turn(1);
        due("from MINUTE 1 on", x.leave(2), 24);
        x = Scene.of("g1", 20, "i0");
        due("none", x.leave(0), 0);
        x = Scene.of("g1", 20, "t;t;t;i0");
        Scene.turnedTo(999, x);
        due("to the last MINUTE", x.leave(0), 996);
    }

    private static void leaveWhoDoesNotRideAtTheFoot() {
        CHECK.says("BAD: also one who does not ride at the foot; NOT: it may not be.");
        TwelveCars x = Scene.of("g1,g1,g1", 20, "i0;i1;o1;t");
        due("in the car that was there", x.leave(0), BAD);
        due("who is gone", x.leave(1), BAD);
        due("who waits", x.leave(2), BAD);
        due("nobody", x.leave(3), BAD);
        due("-1", x.leave(-1), BAD);
        for (int far : Check.FAR_OFF) {
            due("far off", x.leave(far), BAD);
        }
        x.turn(10);
        due("in the next car", x.leave(0), BAD);
        x.turn(1);
        due("there", x.leave(0), 12);
        due("once", x.leave(0), BAD);
        // The twelfth place is where they wait, the thirteenth where they are gone: no minute is there.
        x = Scene.atMinute(12);
        x.person(0, 1);
        due("who waits at MINUTE 12", x.leave(0), BAD);
        x.board(0);
        x.leave(0);
        x.turn(1);
        due("who is gone at MINUTE 13", x.leave(0), BAD);
    }

    private static void leaveMayNot() {
        CHECK.says("NOT: it may not be.");
        TwelveCars x = Scene.of("g21,g20,g1", 42, "i0;i1;i2;t;t;t;t;t;t;s42");
        x.limit(20);
        x.turn(6);
        due("21 out would be 21 against 42", x.leave(0), NOT);
        due("20 out are 22 against 42", x.leave(1), 12);
        due("21 then", x.leave(0), NOT);
        due("1 then", x.leave(2), NOT);
        due("who rides still", x.count(4), 5);
    }

    private static void sandAtTheFoot() {
        CHECK.says("SAND of the car at the foot: what it was. BAD; NOT: it may not be.");
        TwelveCars x = Scene.of("g5", 20, "i0");
        due("16 and 5", x.sand(16), NOT);
        due("15 and 5", x.sand(15), 0);
        due("as much again", x.sand(15), 15);
        x.turn(6);
        due("41 against 20", x.sand(41), NOT);
        due("40 against 20", x.sand(40), 0);
        due("what it was", x.sand(40), 40);
        due("car 0 has its own", x.car(0, 2), 15);
        x.turn(6);
        due("20 and 5 less are too few", x.sand(14), NOT);
        due("15 it was", x.sand(99), NOT);
        due("up to 55", x.sand(56), NOT);
        due("55", x.sand(55), 15);
    }

    private static void mayGetInAlone() {
        CHECK.says("Who may GET IN (0), GET OUT (1) now, alone, as a set.");
        TwelveCars x = Scene.of("g20,g21,c1,s20,b20,g1,g1,g1,c5,g20");
        due("in", x.may(0), 1 + 8 + 16 + 32 + 64 + 128 + 512);
        due("not one behind the other", x.board(0), 1);
        due("in", x.may(0), 0);
        x.limit(22);
        due("in", x.may(0), 4 + 32 + 64 + 128);
        due("who rides is not among them", x.may(0) & 1, 0);
        x.leave(0);
        due("who is gone is not among them", x.may(0) & 1, 0);
    }

    private static void mayGetOutAlone() {
        CHECK.says("now, alone, as a set");
        TwelveCars x = Scene.of("g20,c1,g1,s9", 22, "i0;i1;i2");
        due("each guest by himself, the child too", x.may(1), 7);
        x.leave(2);
        due("the guest keeps the child", x.may(1), 2);
        x.turn(1);
        due("not at the foot", x.may(1), 0);
        x.turn(5);
        x.sand(42);
        x.turn(6);
        due("who keeps the wheel even", x.may(1), 2);
        x.turn(6);
        x.sand(43);
        x.turn(6);
        due("to the last stone", x.may(1), 0);
        x.turn(5);
        due("nobody", x.may(1), 0);
    }

    private static void mayWhat() {
        CHECK.says("Who may GET IN (0), GET OUT (1) now");
        TwelveCars x = Scene.of("g1,g1", 20, "i0");
        due("-1", x.may(-1), BAD);
        due("2", x.may(2), BAD);
        for (int far : Check.FAR_OFF) {
            due("far off", x.may(far), BAD);
        }
        due("0", x.may(0), 2);
        due("1", x.may(1), 1);
    }
}
