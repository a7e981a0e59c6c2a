/** The ends that the document names for all in, all out, sand, what is sure, images (promises 16 to 23). */
public final class EdgeSearchTest {
    private static final int BAD = TwelveCars.BAD, NONE = TwelveCars.NONE, FULL = TwelveCars.FULL;
    private static final int FAR_BAD = -100000001, FAR_FULL = -100000003;
    private static final int ANY = 0, IN_ORDER = 1, TOGETHER = 2;
    private static final Check CHECK = new Check();

    public static void main(String[] args) {
        setsOfUpToFour();
        setsOfThoseWhoWait();
        fewestMinutes();
        inNow();
        inElevenMinutes();
        inWhereItFits();
        inTheCarsToCome();
        inBehindAllWhoGetIn();
        firstRow();
        inTheirOrder();
        inTogether();
        soonestHow();
        whenOfOne();
        minutesFromNow();
        atTheLastMinute();
        outWhenNobodyRides();
        outNow();
        outIn23Minutes();
        outNotAtAll();
        outWhereItFits();
        outTogether();
        leastOfNone();
        leastOf99();
        leastOfLikeOnes();
        leastWithThatSandThere();
        leastByNone();
        leastRefused();
        slips();
        sureToTheLastStone();
        zeroAtLeast();
        aboveNinetyNine();
        eightRide();
        worstSquare();
        worstWhat();
        imageKeeps();
        imageLeavesOut();
        noImage();
        CHECK.end();
    }

    private static void due(String call, long got, long want) {
        CHECK.due(call, got, want);
    }

    private static void row(String what, TwelveCars x, int set, int how, int... minutes) {
        int last = 0;
        for (int i = 0, k = 0; i < 10; i++) {
            if ((set >> i & 1) != 0) {
                last = Math.max(last, minutes[k]);
                due(what + ": when of " + i, x.when(set, how, i), minutes[k++]);
            }
        }
        due(what + ": soonest", x.soonest(set, how), last);
    }

    private static void noWay(String what, TwelveCars x, int set, int how) {
        due(what + ": soonest", x.soonest(set, how), NONE);
        due(what + ": when", x.when(set, how, Integer.numberOfTrailingZeros(set)), NONE);
    }

    private static void badSet(String what, TwelveCars x, int set) {
        for (int how = ANY; how <= TOGETHER; how++) {
            due(what + ": soonest", x.soonest(set, how), BAD);
            for (int person = 0; person < 10; person++) {
                due(what + ": when", x.when(set, how, person), BAD);
            }
        }
    }

    // ---- 16, 17

    private static void setsOfUpToFour() {
        CHECK.says("ALL IN: of a set of up to 4 of PEOPLE who wait");
        TwelveCars x = Scene.of("g1,g1,g1,g1,g1,g1,g1,g1,g1,g1");
        row("one", x, 512, ANY, 0);
        row("three", x, 1 + 32 + 512, ANY, 0, 0, 0);
        row("four", x, 15, ANY, 0, 0, 0, 1);
        row("the last four", x, 15 << 6, ANY, 0, 0, 0, 1);
        badSet("none", x, 0);
        badSet("five", x, 31);
        badSet("all", x, 1023);
    }

    private static void setsOfThoseWhoWait() {
        CHECK.says("BAD (also the empty set, more than 4, one who does not wait); NONE: not in 11 MINUTES.");
        TwelveCars x = Scene.of("g1,g1,g1,g1", 20, "i0;i1;o1");
        badSet("who rides", x, 1);
        badSet("who is gone", x, 2);
        badSet("one who rides, one who waits", x, 1 + 4);
        badSet("one who is gone, one who waits", x, 2 + 8);
        badSet("nobody", x, 16);
        badSet("nobody, and one who waits", x, 16 + 4);
        badSet("the first bit that is nobody's ever", x, 1 << 10);
        badSet("the highest bit", x, Integer.MIN_VALUE);
        due("the highest bit, and one", x.soonest(Integer.MIN_VALUE | 4, ANY), BAD);
        due("all bits", x.soonest(-1, ANY), BAD);
        due("all bits but some", x.soonest(-4, ANY), BAD);
        row("who waits", x, 4 + 8, ANY, 0, 0);
    }

    private static void fewestMinutes() {
        CHECK.says("SOONEST: the fewest MINUTES by which all are in");
        // Seats alone: three a minute.
        TwelveCars x = Scene.of("s1,b1,s1,b1,g1");
        due("one", x.soonest(1, ANY), 0);
        due("two", x.soonest(3, ANY), 1);
        due("three", x.soonest(7, ANY), 2);
        due("four", x.soonest(15, ANY), 3);
        due("a guest beside one of them", x.soonest(16 + 7, ANY), 2);
        due("nobody has got in", x.count(3), 31);
    }

    private static void inNow() {
        CHECK.says("some (or none) get in together at the foot now (0 MINUTES from now), then there is a TURN, some get in (1), and so on");
        row("now", Scene.of("g20"), 1, ANY, 0);
        row("none now, one then", Scene.of("g21", 20, "t;t;t;t;t;t;t;s1;t;t;t;t;t"), 1, ANY, 1);
        row("some now, some then", Scene.of("g1,s1,s1"), 7, ANY, 0, 0, 1);
    }

    /** One stone in car 6, beside 19 of sand, and then only, and only in car 0, forty are even. */
    private static TwelveCars fortyBehindOne(String people) {
        return Scene.of(people, 20, "t;t;t;t;t;t;s19");
    }

    private static void inElevenMinutes() {
        CHECK.says("and so on, up to 11 MINUTES from now");
        row("eleven", Scene.turnedTo(13, fortyBehindOne("g1,g40")), 3, ANY, 5, 11);
        noWay("twelve", Scene.turnedTo(12, fortyBehindOne("g1,g40")), 3, ANY);
        row("six", Scene.turnedTo(18, fortyBehindOne("g1,g40")), 3, ANY, 0, 6);
        noWay("car 0 ahead of car 6", Scene.turnedTo(19, fortyBehindOne("g1,g40")), 3, ANY);
        TwelveCars x = Scene.of("g40", 20, "t;t;t;t;t;s20");
        for (int from = 6; from <= 29; from++) {
            x.turn(1);
            row("forty in car 11 alone, at " + from, x, 1, ANY, Math.floorMod(11 - from, 12));
        }
    }

    private static void inWhereItFits() {
        CHECK.says("each time the car at the foot FITS and the wheel is EVEN behind all who get in then");
        row("a child with its guest", Scene.of("c1,g1"), 3, ANY, 0, 0);
        noWay("a child by itself", Scene.of("c1"), 1, ANY);
        noWay("two children", Scene.of("c1,c1"), 3, ANY);
        row("two children and a guest", Scene.of("c1,c1,g1"), 7, ANY, 0, 0, 0);
        noWay("three children and a guest", Scene.of("c1,c1,c1,g1"), 15, ANY);
        row("three children and a guest in one car, a stout one in the next", Scene.of("c1,c1,s1,g1"), 15, ANY, 0, 0, 1, 0);
        noWay("a child and a goat", Scene.of("c1,b1"), 3, ANY);
        row("goat and guest", Scene.of("b1,g1"), 3, ANY, 0, 0);
        row("two goats", Scene.of("b1,b1"), 3, ANY, 0, 1);
        row("goat, child and guest", Scene.of("b1,c1,g1"), 7, ANY, 0, 1, 1);
    }

    private static void inTheCarsToCome() {
        CHECK.says("then there is a TURN, some get in (1), and so on");
        TwelveCars x = Scene.of("g1,c1", 20, "t;t;t;i0");
        row("to the guest now", x, 2, ANY, 0);
        x.turn(1);
        row("a round later", x, 2, ANY, 11);
        Scene.turnedTo(12, x);
        row("three cars on", x, 2, ANY, 3);
        x = Scene.of("g1,g1,g1,g1", 20, "t;i0;i1;i2");
        row("a full car", x, 8, ANY, 1);
        x.turn(11);
        row("the next is full", x, 8, ANY, 0);
        x = Scene.of("b1,c1,g1", 20, "i0;t;t;i2");
        Scene.turnedTo(12, x);
        row("not to the goat, to the guest", x, 2, ANY, 2);
    }

    private static void inBehindAllWhoGetIn() {
        CHECK.says("the wheel is EVEN behind all who get in then");
        row("20 together", Scene.of("g10,g10"), 3, ANY, 0, 0);
        row("21 apart", Scene.of("g10,g11"), 3, ANY, 0, 2);
        row("just so much", Scene.of("g20,g20"), 3, ANY, 0, 4);
        row("a stone more", Scene.of("g20,g21"), 3, ANY, 0, 5);
        row("two heavy ones", Scene.of("g20,g40"), 3, ANY, 0, 6);
        noWay("none as heavy", Scene.of("g20,g41"), 3, ANY);
        noWay("21 by itself", Scene.of("g21"), 1, ANY);
    }

    private static void firstRow() {
        CHECK.says("WHEN: of the ways by which that is so the first, as a row, by numbers of PEOPLE, of MINUTES from now in which each gets in");
        // Either of like ones may be first: the lesser number is.
        row("like ones", Scene.of("g20,g20"), 3, ANY, 0, 4);
        row("like ones, by numbers", Scene.of("g20,c1,g20,c1,g20"), 16 + 1, ANY, 0, 4);
        // The soonest comes ahead of the row: 0 gets in last, as only so all are in by then.
        row("the soonest first", Scene.of("s30,g15"), 3, ANY, 5, 0);
        // All could be in within the same minutes with 1 in the later car, too.
        row("as early as may be", Scene.of("g1,g1,g1,g1"), 15, ANY, 0, 0, 0, 1);
        row("0 with the child", Scene.of("g1,g1,g1,c1"), 15, ANY, 0, 0, 1, 0);
        row("the stout ahead of the guests", Scene.of("s1,g1,g1,g1"), 15, ANY, 0, 0, 1, 1);
        row("1 with 0, not with 2", Scene.of("g1,s1,g1,s1"), 15, ANY, 0, 0, 1, 1);
    }

    private static void inTheirOrder() {
        CHECK.says("IN ORDER: only ways in which nobody gets in earlier than one of a lesser number");
        row("at once is not earlier", Scene.of("g1,g1,g1"), 7, IN_ORDER, 0, 0, 0);
        row("at once, by pairs", Scene.of("g1,g1,g1,g1"), 15, IN_ORDER, 0, 0, 0, 1);
        row("any: 2 ahead of 1", Scene.of("s1,s1,g1"), 7, ANY, 0, 1, 0);
        row("in order: 2 with 1", Scene.of("s1,s1,g1"), 7, IN_ORDER, 0, 1, 1);
        noWay("the heavy one has the lesser number", Scene.of("s30,g15"), 3, IN_ORDER);
        row("he has the greater one", Scene.of("g15,s30"), 3, IN_ORDER, 0, 5);
        row("at eleven", Scene.turnedTo(13, fortyBehindOne("g1,g40")), 3, IN_ORDER, 5, 11);
        noWay("at twelve", Scene.turnedTo(12, fortyBehindOne("g1,g40")), 3, IN_ORDER);
        noWay("the other order", Scene.turnedTo(13, fortyBehindOne("g40,g1")), 3, IN_ORDER);
        row("any order", Scene.turnedTo(13, fortyBehindOne("g40,g1")), 3, ANY, 11, 5);
        row("who is not asked for does not count", Scene.of("g1,s99,g1"), 5, IN_ORDER, 0, 0);
    }

    private static void inTogether() {
        CHECK.says("TOGETHER: only those in which all get in at once");
        row("three", Scene.of("g1,g1,g1"), 7, TOGETHER, 0, 0, 0);
        noWay("four", Scene.of("g1,g1,g1,g1"), 15, TOGETHER);
        noWay("four seats", Scene.of("s1,s1"), 3, TOGETHER);
        row("one", Scene.of("g20"), 1, TOGETHER, 0);
        row("20", Scene.of("g10,g10"), 3, TOGETHER, 0, 0);
        noWay("21", Scene.of("g10,g11"), 3, TOGETHER);
        TwelveCars x = Scene.of("g15,g25", 20, "t;t;t;t;t;s20;t");
        row("in the one car that takes both", x, 3, TOGETHER, 5, 5);
        x.turn(5);
        row("now", x, 3, TOGETHER, 0, 0);
        x.turn(1);
        row("in eleven", x, 3, TOGETHER, 11, 11);
        row("sooner if not together", x, 3, ANY, 5, 0);
    }

    private static void soonestHow() {
        CHECK.says("SOONEST of a set: 0 in any order, 1 IN ORDER, 2 TOGETHER.");
        TwelveCars x = Scene.of("s1,s1,g1");
        due("any", x.when(7, 0, 2), 0);
        due("in order", x.when(7, 1, 2), 1);
        due("together", x.when(7, 2, 2), NONE);
        due("-1", x.soonest(7, -1), BAD);
        due("3", x.soonest(7, 3), BAD);
        due("when -1", x.when(7, -1, 0), BAD);
        due("when 3", x.when(7, 3, 0), BAD);
        for (int far : Check.FAR_OFF) {
            due("far off", x.soonest(7, far), BAD);
            due("when far off", x.when(7, far, 0), BAD);
        }
    }

    private static void whenOfOne() {
        CHECK.says("WHEN, likewise: the MINUTE of one of the set. BAD; NONE.");
        TwelveCars x = Scene.of("g20,g1,g20");
        due("the lesser", x.when(5, ANY, 0), 0);
        due("the greater", x.when(5, ANY, 2), 4);
        due("who is not of the set", x.when(5, ANY, 1), BAD);
        due("nobody", x.when(5, ANY, 3), BAD);
        due("ten", x.when(5, ANY, 10), BAD);
        due("-1", x.when(5, ANY, -1), BAD);
        due("32 is not 0", x.when(5, ANY, 32), BAD);
        due("34 is not 2", x.when(5, ANY, 34), BAD);
        due("-30 is not 2", x.when(5, ANY, -30), BAD);
        for (int far : Check.FAR_OFF) {
            due("far off", x.when(5, ANY, far), BAD);
        }
        due("who waits still", x.count(3), 7);
    }

    private static void minutesFromNow() {
        CHECK.says("of MINUTES from now in which each gets in");
        TwelveCars x = Scene.of("g20,g20");
        for (int turns = 1; turns <= 14; turns++) {
            x.turn(1);
            row("at MINUTE " + turns, x, 3, ANY, 0, 4);
        }
    }

    private static void atTheLastMinute() {
        CHECK.says("up to 11 MINUTES from now");
        TwelveCars x = Scene.turnedTo(999, Scene.of("g20,g20"));
        row("no other end is told", x, 3, ANY, 0, 4);
    }

    // ---- 18

    private static void outWhenNobodyRides() {
        CHECK.says("the fewest MINUTES by which nobody rides");
        due("nobody has come", new TwelveCars().empty(), 0);
        due("all wait", Scene.of("g1,g2").empty(), 0);
        due("all are gone", Scene.of("g1", 20, "i0;o0;t").empty(), 0);
        due("sand alone", Scene.ofSand(20, 20).empty(), 0);
    }

    private static void outNow() {
        CHECK.says("likewise some of those who ride in the car at the foot get out together");
        TwelveCars x = Scene.of("g9", 20, "i0");
        for (int turns = 0; turns < 25; turns++) {
            due("behind " + turns, x.empty(), Math.floorMod(-turns, 12));
            x.turn(1);
        }
        x = Scene.of("g1,g1,g1,g1,g1,g1,g1,g1,g1,g1", 20, "i0;i1;i2;t;i3;i4;i5;t;i6;i7;i8;t;i9");
        due("ten in four cars", x.empty(), 11);
        Scene.turnedTo(12, x);
        due("ten in four cars to come", x.empty(), 3);
        Scene.turnedTo(999, x);
        due("no other end is told", x.empty(), 11);
    }

    private static void outIn23Minutes() {
        CHECK.says("get out together, up to 23 MINUTES from now");
        // 42 in car 0, 40 in car 6: one of 21, one of 20, the other of 21, the other of 20, in this order alone.
        TwelveCars x = Scene.of("g21,g21,g20,g20", 99, "i0;i1;t;t;t;t;t;t;i2;i3");
        x.limit(20);
        due("24", x.empty(), NONE);
        x.turn(1);
        for (int due = 23; due >= 18; due--) {
            due("cars 0, 6, 0, 6", x.empty(), due);
            x.turn(1);
        }
        due("24 again", x.empty(), NONE);
        due("who rides still", x.count(4), 15);
        CHECK.says("ALL OUT: MINUTES. NONE: not in 23.");
        x = Scene.of("g15,g15,g30", 30, "i0;i1;t;t;t;t;t;t;i2;t;t;t;t;t;t;t");
        x.limit(20);
        due("cars 0, 6, 0", x.empty(), 23);
        x.turn(11);
        due("from car 0 on", x.empty(), 12);
    }

    private static void outNotAtAll() {
        CHECK.says("SAND stays");
        TwelveCars x = Scene.of("g15", 20, "i0;t;t;t;t;t;t;s20;t;t;t;t;t;t");
        due("20 of sand are even", x.empty(), 0);
        x = Scene.of("g15", 20, "i0;t;t;t;t;t;t;s21;t;t;t;t;t;t");
        due("21 are not", x.empty(), NONE);
        x = Scene.of("g15,g15", 20, "i0;t;t;t;t;t;t;i1");
        x.limit(14);
        due("each keeps the other up", x.empty(), NONE);
        x.limit(15);
        due("15 may hang there", x.empty(), 6);
    }

    private static void outWhereItFits() {
        CHECK.says("each time that car FITS and the wheel is EVEN then");
        TwelveCars x = Scene.of("g25,c10,g30", 40, "i0;i1;t;t;t;t;t;t;i2;t;t;t;t;t;t");
        x.limit(20);
        due("the guest ahead of his child", x.empty(), NONE);
        x = Scene.of("g25,g10,g30", 40, "i0;i1;t;t;t;t;t;t;i2;t;t;t;t;t;t");
        x.limit(20);
        due("were it no child", x.empty(), 12);
        x = Scene.of("g9,c9", 20, "i0;i1");
        due("both at once", x.empty(), 0);
    }

    private static void outTogether() {
        CHECK.says("some of those who ride in the car at the foot get out together");
        TwelveCars x = Scene.of("g10,g10,g10", 30, "i0;i1;i2");
        due("all at once", x.empty(), 0);
        x = Scene.of("g20,g20,g20", 60, "i0;t;t;t;t;i1;t;t;t;t;i2");
        x.limit(20);
        due("one behind the other", x.empty(), 8);
        x.limit(19);
        due("two of them pull by 20", x.empty(), NONE);
    }

    // ---- 19

    private static void leastOfNone() {
        CHECK.says("LEAST SAND: how much (0), in which car (1).");
        for (int minute = 0; minute < 13; minute++) {
            TwelveCars x = Scene.turnedTo(minute, Scene.of("g20"));
            due("none, at " + minute, x.least(0, 0), 0);
            due("in the first car, at " + minute, x.least(0, 1), 0);
        }
        TwelveCars x = Scene.turnedTo(8, Scene.of("g21"));
        due("one", x.least(0, 0), 1);
        due("across", x.least(0, 1), 2);
    }

    private static void leastOf99() {
        CHECK.says("the least SAND more in one car (99 at most in it)");
        TwelveCars x = Scene.of("g99");
        x.limit(0);
        due("99 where there is none", x.least(0, 0), 99);
        due("across", x.least(0, 1), 6);
        int[] ninety = {90, 90, 90, 90, 90, 90, 90, 90, 90, 90, 90, 90};
        x = Scene.ofSand(0, ninety);
        x.person(0, 9);
        x.person(0, 10);
        due("9 to 90", x.least(0, 0), 9);
        due("10 to 90", x.least(1, 0), NONE);
        due("nor a car", x.least(1, 1), NONE);
        x.limit(1);
        due("9 are enough then", x.least(1, 0), 9);
        int[] full = {99, 99, 99, 99, 99, 99, 99, 99, 99, 99, 99, 99};
        x = Scene.ofSand(20, full);
        x.person(0, 20);
        x.person(0, 21);
        due("none is needed where all are full", x.least(0, 0), 0);
        due("in the first car", x.least(0, 1), 0);
        due("one is, and none goes in", x.least(1, 0), NONE);
    }

    private static void leastOfLikeOnes() {
        CHECK.says("of like ones the first car");
        TwelveCars x = Scene.ofSand(20, 0, 3, 0, 0, 0, 0, 0, 0, 0, 0, 0, 3);
        x.person(0, 15);
        due("a stone", x.least(0, 0), 1);
        due("4 to 8 would do", x.least(0, 1), 4);
        // Foot at 9, so that 6 is across from where cars 8, 9, 10 pull, and 1 to 5 would do: the first by numbers.
        x = Scene.ofSand(20, 0, 0, 0, 0, 0, 0, 0, 0, 3, 0, 3);
        Scene.turnedTo(9, x);
        x.person(0, 15);
        due("a stone", x.least(0, 0), 1);
        due("1 to 5 would do", x.least(0, 1), 1);
        // A full car gives way to the one behind it.
        x = Scene.ofSand(20, 99, 3, 0, 0, 99, 0, 0, 0, 99, 0, 0, 3);
        x.person(0, 15);
        due("a stone", x.least(0, 0), 1);
        due("4 is full", x.least(0, 1), 5);
    }

    private static void leastWithThatSandThere() {
        CHECK.says("so that he, that SAND being there, may get in now");
        TwelveCars x = Scene.of("g50");
        due("30, which alone would not be even", x.least(0, 0), 30);
        due("across", x.least(0, 1), 6);
        due("none of it is there", x.count(6), 0);
        x.turn(6);
        due("it could not be put there ahead of him", x.sand(30), TwelveCars.NOT);
        x = Scene.of("g20,g5", 20, "i0");
        due("5 beside 20", x.least(1, 0), 5);
        due("across", x.least(1, 1), 6);
        x.turn(12);
        due("as before", x.least(1, 0), 5);
        x.turn(6);
        due("none across from him", x.least(1, 0), 0);
    }

    private static void leastByNone() {
        CHECK.says("NONE: by none.");
        TwelveCars x = Scene.of("c5,g1,g1,g1,g1");
        due("a child by itself", x.least(0, 0), NONE);
        due("nor a car", x.least(0, 1), NONE);
        x.board(1);
        due("with a guest", x.least(0, 0), 0);
        x.board(2);
        x.board(3);
        due("four seats", x.least(4, 0), NONE);
        due("nor a car", x.least(4, 1), NONE);
        x = Scene.of("g99,g99", 999, "i0;t;t;t;t;t;t;s1;t;t;t;t;t;t");
        x.limit(99);
        due("198 against 1 and 98", x.least(1, 0), 98);
        due("across", x.least(1, 1), 6);
        x.limit(98);
        due("99 more do not go in", x.least(1, 0), NONE);
        due("nor elsewhere", x.least(1, 1), NONE);
    }

    private static void leastRefused() {
        CHECK.says("LEAST SAND for one who waits");
        CHECK.says("BAD: also one who does not wait; NONE: by none.");
        TwelveCars x = Scene.of("g1,g1,g1", 20, "i0;i1;o1");
        for (int what = 0; what < 2; what++) {
            due("who rides", x.least(0, what), BAD);
            due("who is gone", x.least(1, what), BAD);
            due("who waits", x.least(2, what), 0);
            due("nobody", x.least(3, what), BAD);
            due("-1", x.least(-1, what), BAD);
            for (int far : Check.FAR_OFF) {
                due("far off", x.least(far, what), BAD);
            }
        }
        due("what -1", x.least(2, -1), BAD);
        due("what 2", x.least(2, 2), BAD);
        for (int far : Check.FAR_OFF) {
            due("far off", x.least(2, far), BAD);
        }
    }

    // ---- 20, 21

    private static void slips() {
        CHECK.says("SURE for a SLIP (0 .. 9)");
        TwelveCars x = Scene.of("g10", 20, "i0");
        due("-1", x.sure(-1), BAD);
        due("10", x.sure(10), BAD);
        due("worst -1", x.worst(-1, 0), FAR_BAD);
        due("worst 10", x.worst(10, 1), FAR_BAD);
        for (int far : Check.FAR_OFF) {
            due("far off", x.sure(far), BAD);
            due("worst far off", x.worst(far, 0), FAR_BAD);
        }
        for (int slip = 0; slip <= 9; slip++) {
            due("slip " + slip, x.sure(slip), 1);
            due("worst of " + slip, x.worst(slip, 0), 4 * (10 + slip) * (10 + slip));
            due("no R in it", x.worst(slip, 1), 0);
        }
        due("what he is told to weigh", x.told(0, 1), 10);
    }

    private static void sureToTheLastStone() {
        CHECK.says("whether the wheel is EVEN whatever the WEIGHT of each who rides (8 at most) is");
        TwelveCars x = Scene.of("g11", 20, "i0");
        due("20", x.sure(9), 1);
        x = Scene.of("g12", 20, "i0");
        due("21", x.sure(9), 0);
        due("20 by 8", x.sure(8), 1);
        x = Scene.of("g30,g30", 60, "i0;t;t;t;t;t;t;i1");
        x.limit(18);
        due("one more, the other less", x.sure(9), 1);
        x.limit(17);
        due("18 apart", x.sure(9), 0);
        x.limit(0);
        due("known", x.sure(0), 1);
        due("by one", x.sure(1), 0);
        due("nobody rides", Scene.ofSand(0, 5, 0, 0, 0, 0, 0, 5).sure(9), 1);
        due("sand does not slip", Scene.ofSand(20, 20).sure(9), 1);
        due("who waits does not count", Scene.of("g99").sure(9), 1);
        due("who is gone does not count", Scene.of("g12", 20, "i0;o0").sure(9), 1);
    }

    private static void zeroAtLeast() {
        CHECK.says("from SLIP less (0 at least) to SLIP more");
        // He holds up sand across: the lighter he is, the worse.
        TwelveCars x = Scene.of("g3", 20, "i0;t;t;t;t;t;t;s20");
        for (int slip = 0; slip <= 9; slip++) {
            int lightest = Math.max(0, 3 - slip);
            due("slip " + slip, x.worst(slip, 0), 4 * (20 - lightest) * (20 - lightest));
            due("sure", x.sure(slip), 1);
        }
        x = Scene.of("g3", 20, "i0;t;t;t;t;t;t;s21");
        due("1 holds it up", x.sure(2), 1);
        due("0 does not", x.sure(3), 0);
        due("nor any less", x.worst(9, 0), 4 * 21 * 21);
    }

    private static void aboveNinetyNine() {
        CHECK.says("to SLIP more");
        TwelveCars x = Scene.of("g99", 999, "i0");
        due("108", x.worst(9, 0), 4 * 108 * 108);
        x.limit(107);
        due("is more than 107", x.sure(9), 0);
        due("107 is not", x.sure(8), 1);
    }

    private static void eightRide() {
        CHECK.says("SURE (1, 0). BAD; FULL: more than 8 ride.");
        TwelveCars x = Scene.of("g10,g10,g10,g10,g10,g10,g10,g10,g10,g10", 999, "i0;i1;i2;t;t;i3;i4;i5;t;t;t;t;t;t;t;t;i6;i7");
        due("eight", x.sure(9), 1);
        // 57 in car 0, 57 in car 2, 38 in car 10.
        due("worst of eight", x.worst(9, 0), 209 * 209 + 3 * 19 * 19);
        due("its R", x.worst(9, 1), 0);
        x.limit(106);
        due("106 times 106 times 4 are 44944", x.sure(9), 1);
        x.limit(105);
        due("44100 are less", x.sure(9), 0);
        x.limit(999);
        x.board(8);
        due("nine", x.sure(9), FULL);
        due("nine of no slip", x.sure(0), FULL);
        due("worst of nine", x.worst(9, 0), FAR_FULL);
        due("worst of nine, R", x.worst(0, 1), FAR_FULL);
        x.turn(1);
        x.board(9);
        due("ten", x.sure(0), FULL);
        x.leave(9);
        due("nine again", x.sure(0), FULL);
        x.turn(11);
        x.leave(8);
        due("eight again, two are gone", x.worst(9, 0), 209 * 209 + 3 * 19 * 19);
        due("sure again", x.sure(9), 1);
    }

    private static void worstSquare() {
        CHECK.says("WORST: the greatest SQUARE that there is so.");
        TwelveCars x = Scene.of("g10,g10", 99, "i0;t;i1");
        due("both heavy", x.worst(2, 0), (4 + 3 + 1) * 144);
        due("R", x.worst(2, 1), 4 * 144);
        x = Scene.of("g10,g10", 99, "i0;t;t;t;t;t;i1");
        due("one heavy, one light: 12 and 8", x.worst(2, 0), 4 * 144 + 3 * 64 + 64);
        due("R below 0", x.worst(2, 1), -2 * 24 * 8);
        x = Scene.of("g10", 99, "i0;t;t;t;s30");
        due("square across sand", x.worst(5, 0), 4 * (225 + 900));
        due("no slip is what there is", x.worst(0, 0), x.out(4));
        x = Scene.of("g7,g9", 99, "t;i0;t;t;i1");
        due("no slip is what there is", x.worst(0, 0), x.out(4));
        due("its R, too", x.worst(0, 1), x.out(5));
        due("nobody rides", Scene.ofSand(20, 3, 4).worst(9, 0), 36 + 3 * 16 + 16);
        due("nobody rides, R", Scene.ofSand(20, 3, 4).worst(9, 1), 2 * 6 * 4);
    }

    private static void worstWhat() {
        CHECK.says("WORST: A (0), B (1). BAD less 100000000; FULL so: more than 8 ride.");
        TwelveCars x = Scene.of("g10,g10", 99, "i0;t;i1");
        due("-1", x.worst(0, -1), FAR_BAD);
        due("2", x.worst(0, 2), FAR_BAD);
        for (int far : Check.FAR_OFF) {
            due("far off", x.worst(0, far), FAR_BAD);
        }
    }

    // ---- 22, 23

    private static void imageKeeps() {
        CHECK.says("All is as it was then: 1.");
        TwelveCars x = Scene.of("g5,c6,s7,b8", 33, "i0;i1;s4;t;i2;o2;t");
        java.util.List<String> before = Sight.ofWheel(x);
        due("image", x.image(), 1);
        Check.people(x, "b1,b2,b3,b4,b5,b6,b7,b8,b9");
        x.limit(999);
        Scene.happens(x, "i0;s9;t;i3;t");
        due("restore", x.restore(), 1);
        CHECK.same("all", Sight.ofWheel(x), before);
        due("limit", x.limit(34), 33);
        due("again", x.restore(), 1);
        CHECK.same("all again", Sight.ofWheel(x), before);
        due("limit again", x.limit(33), 33);
        Scene.turnedTo(500, x);
        due("another in its place", x.image(), 1);
        Scene.turnedTo(501, x);
        x.restore();
        due("the later one", x.count(1), 500);
    }

    private static void imageLeavesOut() {
        CHECK.says("All but SHEETS, THE TAPE is kept as an IMAGE: 1.");
        TwelveCars x = Scene.of("g5");
        x.sheet(0, 1, 3);
        x.sheet(1, 2, 12);
        Check.type(x, "s1");
        x.image();
        x.drop(0);
        x.sheet(1, 0, 13);
        x.item(1, 0, 1, 9);
        x.sheet(2, 2, 24);
        Check.type(x, "2;t");
        x.restore();
        due("a sheet that was", x.drop(0), TwelveCars.NULL);
        due("another row", x.pour(1, 0, 1), 9);
        due("a sheet that was not", x.drop(2), 24);
        due("the tape as it is", x.evening(), 2);
        due("12 of sand", x.car(0, 2), 12);
        x.restore();
        due("it stays empty", x.evening(), -20);
        due("no sand then", x.count(6), 0);
    }

    private static void noImage() {
        CHECK.says("NONE: there is none.");
        TwelveCars x = Scene.of("g5", 30, "i0;t");
        due("none", x.restore(), NONE);
        due("nothing is changed", x.count(4), 1);
        due("minute", x.count(1), 1);
        due("image", x.image(), 1);
        due("there is one", x.restore(), 1);
        due("it is there still", x.restore(), 1);
        x = new TwelveCars();
        x.image();
        x.person(0, 5);
        x.restore();
        due("of an empty wheel", x.count(0), 0);
    }
}
