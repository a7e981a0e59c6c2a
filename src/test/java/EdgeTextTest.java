/** The ends that the document names for the tape, people and evenings as texts (promises 7 to 9). */
public final class EdgeTextTest {
    private static final int BAD = TwelveCars.BAD, NOT = TwelveCars.NOT, FULL = TwelveCars.FULL;
    private static final long EIGHT_BLANKS = 0x2020202020202020L;
    private static final Check CHECK = new Check();

    public static void main(String[] args) {
        lowestBytesHighestFirst();
        oneToEightBytes();
        bytesThatMayBeTyped();
        tapeOf120();
        peopleOneToTen();
        peopleLetters();
        peopleNumbers();
        peopleInPlaceOfThoseTold();
        peopleSandAlone();
        peopleEmptyTape();
        peopleKeptAtAFault();
        placesOfFaults();
        placesAtTheEnd();
        placesOfNumbers();
        blanks();
        eveningOneAtLeast();
        eveningLetters();
        eveningDigits();
        eveningSand();
        eveningFaults();
        eveningDoneTillOneMayNotBe();
        eveningDigitsOfNobody();
        eveningAtTheLastMinute();
        eveningEmptyTape();
        eveningOfAFullTape();
        CHECK.end();
    }

    private static void due(String call, long got, long want) {
        CHECK.due(call, got, want);
    }

    private static void fault(boolean isEvening, String text, int place) {
        TwelveCars x = Scene.of("g3");
        int got = isEvening ? Check.evening(x, text) : Check.people(x, text);
        due("'" + text + "'", got, -20 - place);
    }

    private static TwelveCars withTape(int bytes) {
        TwelveCars x = new TwelveCars();
        for (int i = 0; i < bytes; i++) {
            x.type(' ', 1);
        }
        return x;
    }

    private static void lowestBytesHighestFirst() {
        CHECK.says("The n lowest bytes (1 .. 8) of w, of these the highest first, come behind THE TAPE: how many it has.");
        TwelveCars x = new TwelveCars();
        due("three", x.type(Check.packed("g12"), 3), 3);
        due("and one, of eight", x.type(Check.packed("gcsbiost") & ~255L | ',', 1), 4);
        due("and two", x.type(Check.packed("zzb7"), 2), 6);
        due("people", x.people(), 2);
        due("12, not 21", x.told(0, 1), 12);
        due("7", x.told(1, 1), 7);
        due("b", x.told(1, 0), 3);
        due("eight", x.type(Check.packed("g1,c2,s3"), 8), 8);
        due("three of it", x.people(), 3);
        due("in their order", x.told(2, 0), 2);
    }

    private static void oneToEightBytes() {
        CHECK.says("BAD: n, a byte not 32 .. 126; FULL: 120.");
        TwelveCars x = new TwelveCars();
        int[] refused = {0, 9, -1, 10, 64, 257, Integer.MIN_VALUE, Integer.MIN_VALUE + 1, Integer.MAX_VALUE};
        for (int n : refused) {
            due("n " + n, x.type(EIGHT_BLANKS, n), BAD);
        }
        int all = 0;
        for (int n = 1; n <= 8; n++) {
            all += n;
            due("n " + n, x.type(EIGHT_BLANKS, n), all);
        }
    }

    private static void bytesThatMayBeTyped() {
        CHECK.says("a byte not 32 .. 126");
        for (int b = 0; b < 256; b++) {
            boolean typable = b >= 32 && b <= 126;
            for (int place = 0; place < 8; place++) {
                long w = EIGHT_BLANKS & ~(255L << 8 * place) | (long) b << 8 * place;
                TwelveCars x = new TwelveCars();
                due("byte " + b + " at " + place, x.type(w, 8), typable ? 8 : BAD);
                if (place > 0) {
                    due("byte " + b + " beyond", x.type(w, place), (typable ? 8 : 0) + place);
                }
            }
        }
        TwelveCars x = new TwelveCars();
        due("one of two", x.type(0x671fL, 2), BAD);
        due("the other of two", x.type(0x7f67L, 2), BAD);
        due("nothing of it is there", x.type('g', 1), 1);
    }

    private static void tapeOf120() {
        CHECK.says("FULL: 120");
        due("the last byte", withTape(119).type(' ', 1), 120);
        due("two where one goes", withTape(119).type(EIGHT_BLANKS, 2), FULL);
        due("none more", withTape(120).type(' ', 1), FULL);
        due("eight to the end", withTape(112).type(EIGHT_BLANKS, 8), 120);
        due("eight, one beyond", withTape(113).type(EIGHT_BLANKS, 8), FULL);
        TwelveCars x = withTape(113);
        x.type(EIGHT_BLANKS, 8);
        due("nothing of those refused is there", x.type(EIGHT_BLANKS, 7), 120);
        due("120 blanks are no evening", x.evening(), -140);
        due("it is empty then", x.type('t', 1), 1);
        x = withTape(119);
        due("taken", x.type('x', 1), 120);
        due("the last byte is read", x.people(), -139);
        x = withTape(117);
        x.type(Check.packed("g99"), 3);
        due("a text to the last byte", x.people(), 1);
        due("its last number", x.told(0, 1), 99);
        x = withTape(118);
        x.type(Check.packed("s9"), 2);
        due("an evening to the last byte", x.evening(), 1);
        due("its sand", x.car(0, 2), 9);
    }

    private static void peopleOneToTen() {
        CHECK.says("PEOPLE are a TEXT: 1 to 10 with , between");
        fault(false, "", 0);
        due("one", Check.people(new TwelveCars(), "g1"), 1);
        TwelveCars x = new TwelveCars();
        due("ten", Check.people(x, "g1,g2,g3,g4,g5,g6,g7,g8,g9,g10"), 10);
        due("the tenth", x.told(9, 1), 10);
        due("no place for one more", x.person(0, 1), FULL);
        fault(false, "g1,g2,g3,g4,g5,g6,g7,g8,g9,g10,", 30);
        fault(false, "g1,g2,g3,g4,g5,g6,g7,g8,g9,g10,g11", 30);
        fault(false, "g1,g2,g3,g4,g5,g6,g7,g8,g9,g10 ,", 31);
        fault(false, "g1,g2,g3,g4,g5,g6,g7,g8,g9,g10x", 30);
        fault(false, "g1,g2,g3,g4,g5,g6,g7,g8,g9,g10 5", 31);
        fault(false, "g1,g2,g3,g4,g5,g6,g7,g8,g9,", 27);
        due("blanks behind the tenth", Check.people(new TwelveCars(), "g1,g2,g3,g4,g5,g6,g7,g8,g9,g10  "), 10);
    }

    private static void peopleLetters() {
        CHECK.says("g c s b (KINDS in this order)");
        TwelveCars x = Scene.of("g1,c1,s1,b1");
        for (int kind = 0; kind < 4; kind++) {
            due("kind", x.told(kind, 0), kind);
        }
        for (char b = 33; b < 127; b++) {
            if ("gcsb".indexOf(b) < 0) {
                fault(false, b + "1", 0);
                fault(false, "g1," + b + "1", 3);
            }
        }
    }

    private static void peopleNumbers() {
        CHECK.says("a number (WEIGHT; zeros ahead, too)");
        String[] taken = {"g1", "g99", "g01", "g099", "g001", "g00000000000000000000099", "g0000000000000000000000000000001"};
        int[] weights = {1, 99, 1, 99, 1, 99, 1};
        for (int i = 0; i < taken.length; i++) {
            TwelveCars x = new TwelveCars();
            due(taken[i], Check.people(x, taken[i]), 1);
            due("weight of " + taken[i], x.told(0, 1), weights[i]);
        }
        String[] refused = {"g0", "g00", "g100", "g0100", "g999", "g4294967297", "g18446744073709551617", "g2147483648",
            "g000000000000000", "g1000000000000000000000000000005"};
        for (String text : refused) {
            fault(false, text, 1);
        }
        StringBuilder longest = new StringBuilder("g");
        while (longest.length() < 119) {
            longest.append('0');
        }
        TwelveCars x = new TwelveCars();
        due("118 zeros and 7", Check.people(x, longest + "7"), 1);
        due("7", x.told(0, 1), 7);
        fault(false, longest + "0", 1);
        fault(false, "g" + "9".repeat(119), 1);
    }

    private static void peopleInPlaceOfThoseTold() {
        CHECK.says("in place of those told (all wait; SAND stays)");
        TwelveCars x = Scene.of("g1,g2,g3,g4", 20, "i0;s7;t;i1;o1;i2;s8;t");
        due("two", Check.people(x, "b5,c6"), 2);
        due("how many there are", x.count(0), 2);
        due("all wait", x.count(3), 3);
        due("nobody rides", x.count(4), 0);
        due("nobody is gone", x.count(5), 0);
        due("sand stays", x.count(6), 15);
        due("in its car", x.car(0, 2), 7);
        due("and in the other", x.car(1, 0), 8);
        due("the minute stays", x.count(1), 2);
        due("the limit stays", x.limit(20), 20);
        due("weight", x.told(0, 1), 5);
        due("he has not got in", x.told(0, 3), TwelveCars.NONE);
        due("nobody of those before", x.told(2, 0), BAD);
        due("the next number", x.person(0, 9), 2);
    }

    private static void peopleSandAlone() {
        CHECK.says("NOT: the wheel would not be EVEN with SAND alone (those told stay)");
        TwelveCars x = Scene.of("g1,g5", 20, "i0;t;t;t;t;t;t;s21");
        due("21 alone", Check.people(x, "b9,b9,b9"), NOT);
        due("those told stay", x.count(0), 2);
        due("who rides rides", x.told(0, 2), 0);
        due("who waits waits", x.told(1, 2), 12);
        due("the tape is empty", x.people(), -20);
        x.sand(20);
        due("20 alone", Check.people(x, "b9,b9,b9"), 3);
        due("those told are gone", x.told(0, 0), 3);
    }

    private static void peopleEmptyTape() {
        CHECK.says("THE TAPE, which is empty then (whatever is answered), is PEOPLE: how many.");
        TwelveCars x = new TwelveCars();
        Check.people(x, "g5");
        due("behind how many", x.type('g', 1), 1);
        due("a fault", x.people(), -21);
        due("behind a fault", x.type('t', 1), 1);
        x = Scene.of("g1", 20, "i0;t;t;t;t;t;t;s21");
        due("not", Check.people(x, "g5"), NOT);
        due("behind not", x.type('t', 1), 1);
        due("nothing before it", x.evening(), 1);
    }

    private static void peopleKeptAtAFault() {
        CHECK.says("A FAULT (those told stay); NOT");
        TwelveCars x = Scene.of("g1,s2,b3", 20, "i0;i1;t;i2");
        due("at the end", Check.people(x, "c9,c9,c9,c9,"), -32);
        due("how many", x.count(0), 3);
        due("who rides", x.count(4), 7);
        int[] kinds = {0, 2, 3};
        for (int i = 0; i < 3; i++) {
            due("kind", x.told(i, 0), kinds[i]);
            due("weight", x.told(i, 1), i + 1);
            due("minute", x.told(i, 3), i / 2);
        }
        due("no more than ten", Check.people(x, "c9,c9,c9,c9,c9,c9,c9,c9,c9,c9,c9"), -49);
        due("how many", x.count(0), 3);
    }

    private static void placesOfFaults() {
        CHECK.says("FAULTS: -20 less the place of the first byte");
        fault(false, "x", 0);
        fault(false, "gx", 1);
        fault(false, "g5x", 2);
        fault(false, "g5,x", 3);
        fault(false, "g5,gx", 4);
        fault(false, "gg", 1);
        fault(false, ",", 0);
        fault(false, "g,", 1);
        fault(false, "g5,,", 3);
        fault(false, "g5;", 2);
        fault(false, "g5g5", 2);
        fault(false, "5", 0);
        fault(false, "g-5", 1);
        fault(false, "g+5", 1);
        fault(false, "g5.0", 2);
        CHECK.says("of a number that may not be its first byte");
        fault(false, "xg100", 0);
        fault(false, "g100x", 1);
        fault(false, "g5x,g100", 2);
    }

    private static void placesAtTheEnd() {
        CHECK.says("that can't stand there (the end: how many bytes there are)");
        fault(false, "", 0);
        fault(false, " ", 1);
        fault(false, "        ", 8);
        fault(false, "g", 1);
        fault(false, "g  ", 3);
        fault(false, "g5,", 3);
        fault(false, " g5 , ", 6);
        fault(false, "g5,c", 4);
        fault(true, "", 0);
        fault(true, "   ", 3);
        fault(true, "i", 1);
        fault(true, "o ", 2);
        fault(true, "s  ", 3);
        fault(true, "t;", 2);
        fault(true, "t; ", 3);
        TwelveCars x = new TwelveCars();
        for (int i = 0; i < 60; i++) {
            x.type(Check.packed("t;"), 2);
        }
        due("sixty and nothing behind", x.evening(), -140);
        due("none is done", x.count(1), 0);
    }

    private static void placesOfNumbers() {
        CHECK.says("of a number that may not be its first byte");
        fault(false, "g0", 1);
        fault(false, "g000", 1);
        fault(false, "g  0100", 3);
        fault(false, "g5,c 100 ,s5", 5);
        fault(true, "s100", 1);
        fault(true, "s 00100", 2);
        fault(true, "t;s5;s999;x", 6);
        fault(true, "s1000000000000000000000000000000", 1);
        fault(true, "s4294967297", 1);
    }

    private static void blanks() {
        CHECK.says("(blanks do not count, but end a number)");
        TwelveCars x = new TwelveCars();
        due("between all", Check.people(x, "  g  5  ,  c  06  "), 2);
        due("5", x.told(0, 1), 5);
        due("6", x.told(1, 1), 6);
        fault(false, "g5 6", 3);
        fault(false, "g0 6", 1);
        fault(false, "g1 00", 3);
        fault(false, "g 5  6", 5);
        fault(false, "  x", 2);
        due("between all of an evening", Check.evening(Scene.of("g5"), "  i  0  ;  s  07  ;  o 0 ;  t  "), 4);
        fault(true, "s5 6", 3);
        fault(true, "i0 1", 3);
        fault(true, "t t", 2);
    }

    private static void eveningOneAtLeast() {
        CHECK.says("AN EVENING is a TEXT of such, one at least, one behind the other with ; between");
        fault(true, "", 0);
        fault(true, " ", 1);
        fault(true, ";", 0);
        fault(true, ";t", 0);
        fault(true, "t;;t", 2);
        fault(true, "t,t", 1);
        fault(true, "tt", 1);
        fault(true, "i0o0", 2);
        fault(true, "s5s6", 2);
        due("one", Check.evening(new TwelveCars(), "t"), 1);
        due("two", Check.evening(new TwelveCars(), "t;t"), 2);
    }

    private static void eveningLetters() {
        CHECK.says("i and a digit (gets in), o and a digit (gets out), s and a number (0 .. 99; SAND; zeros ahead, too), t (a TURN)");
        for (char b = 33; b < 127; b++) {
            if ("iost".indexOf(b) < 0) {
                fault(true, b + "1", 0);
                fault(true, "t;" + b, 2);
            }
        }
        TwelveCars x = Scene.of("g1,g2");
        due("each", Check.evening(x, "i1;s9;t;i0;o0"), 5);
        due("rides", x.count(4), 2);
        due("gone", x.count(5), 1);
        due("sand", x.car(0, 2), 9);
        due("minute", x.count(1), 1);
    }

    private static void eveningDigits() {
        CHECK.says("i and a digit (gets in), o and a digit (gets out)");
        TwelveCars x = Scene.of("g1,g1,g1,g1,g1,g1,g1,g1,g1,g1");
        due("0", Check.evening(x, "i0;o0"), 2);
        due("9", Check.evening(x, "i9;o9"), 2);
        fault(true, "i10", 2);
        fault(true, "i00", 2);
        fault(true, "o10", 2);
        fault(true, "i", 1);
        fault(true, "o;", 1);
        fault(true, "ix", 1);
        fault(true, "i/", 1);
        fault(true, "o:", 1);
        fault(true, "t0", 1);
    }

    private static void eveningSand() {
        CHECK.says("s and a number (0 .. 99; SAND; zeros ahead, too)");
        String[] taken = {"s0", "s00", "s99", "s099", "s000000000000000000000000000000000000007"};
        int[] sands = {0, 0, 99, 99, 7};
        for (int i = 0; i < taken.length; i++) {
            TwelveCars x = Scene.ofSand(999, 50);
            due(taken[i], Check.evening(x, taken[i]), 1);
            due("sand of " + taken[i], x.car(0, 2), sands[i]);
        }
        fault(true, "s100", 1);
        fault(true, "s0100", 1);
        fault(true, "s", 1);
        fault(true, "s-1", 1);
        fault(true, "s/", 1);
        fault(true, "s:", 1);
        fault(true, "s5:", 2);
    }

    private static void eveningFaults() {
        CHECK.says("A FAULT (nothing is done)");
        TwelveCars x = Scene.of("g3,g4", 20, "i0;s5");
        due("at the end of many", Check.evening(x, "o0;i1;s9;t;t;"), -33);
        due("at the start", Check.evening(x, "x;t"), -20);
        due("a number behind what may not be", Check.evening(x, "i7;s100"), -24);
        due("rides", x.count(4), 1);
        due("waits", x.count(3), 2);
        due("sand", x.count(6), 5);
        due("minute", x.count(1), 0);
    }

    private static void eveningDoneTillOneMayNotBe() {
        CHECK.says("it is done till one is not as told above (a digit that is nobody's, a TURN above MINUTE 999, too) or may not be");
        TwelveCars x = Scene.of("g20,g1,c1,g1");
        due("out of true", Check.evening(x, "t;i0;i1;t"), 2);
        due("what is behind it is not done", x.count(1), 1);
        due("what is ahead of it is", x.count(4), 1);
        due("a car that does not fit", Check.evening(x, "t;i2;t"), 1);
        x = new TwelveCars();
        due("sand", Check.evening(x, "s20;s21;s1"), 1);
        due("that ahead of it", x.car(0, 2), 20);
        x = Scene.of("g5,c5,g5", 20, "i0;i1");
        due("the child would stay alone", Check.evening(x, "s1;o0;t"), 1);
        due("who rides", x.count(4), 3);
        due("in their order it may be", Check.evening(x, "o1;o0;t"), 3);
        x = Scene.of("g20,g20", 20, "i0;t;t;t;t;t;t;i1");
        x.limit(19);
        due("out that may not be", Check.evening(x, "o1;t"), 0);
        due("minute", x.count(1), 6);
    }

    private static void eveningDigitsOfNobody() {
        CHECK.says("(a digit that is nobody's, a TURN above MINUTE 999, too)");
        TwelveCars x = Scene.of("g1,g1,g1", 20, "i1;i2;o2");
        due("nobody gets in", Check.evening(x, "t;i3;t"), 1);
        due("nobody gets out", Check.evening(x, "t;o9;t"), 1);
        due("who rides gets in", Check.evening(x, "t;i1;t"), 1);
        due("who is gone gets in", Check.evening(x, "i2"), 0);
        due("who is gone gets out", Check.evening(x, "o2"), 0);
        due("who waits gets out", Check.evening(x, "o0"), 0);
        due("who rides elsewhere gets out", Check.evening(x, "t;o1"), 1);
        due("minute", x.count(1), 4);
        due("nothing but turns was done", x.count(3) * 100 + x.count(4) * 10 + x.count(5), 100 + 20 + 4);
        due("nobody at all", Check.evening(new TwelveCars(), "i0"), 0);
    }

    private static void eveningAtTheLastMinute() {
        CHECK.says("a TURN above MINUTE 999, too");
        TwelveCars x = Scene.atMinute(998);
        due("to 999, no further", Check.evening(x, "t;t;s5"), 1);
        due("minute", x.count(1), 999);
        due("no sand behind it", x.count(6), 0);
        due("sand, then no turn", Check.evening(x, "s5;t"), 1);
        due("sand", x.count(6), 5);
        due("none", Check.evening(x, "t"), 0);
    }

    private static void eveningEmptyTape() {
        CHECK.says("THE TAPE, which is empty then (whatever is answered), is an EVENING: how many of it are done.");
        TwelveCars x = new TwelveCars();
        due("all", Check.evening(x, "t;t"), 2);
        due("behind all", x.type('i', 1), 1);
        due("a fault", x.evening(), -21);
        due("behind a fault", x.type('i', 1), 1);
        x.type('0', 1);
        due("none", x.evening(), 0);
        due("behind none", x.type('t', 1), 1);
        due("nothing before it", x.evening(), 1);
        due("nothing is left", x.evening(), -20);
    }

    private static void eveningOfAFullTape() {
        CHECK.says("how many of it are done");
        TwelveCars x = new TwelveCars();
        for (int i = 0; i < 59; i++) {
            x.type(Check.packed("t;"), 2);
        }
        due("119 bytes", x.type('t', 1), 119);
        due("and a blank", x.type(' ', 1), 120);
        due("sixty", x.evening(), 60);
        due("minute", x.count(1), 60);
        x = Scene.of("g1");
        for (int i = 0; i < 40; i++) {
            x.type(Check.packed(i % 2 == 0 ? "i0;" : "o0;"), 3);
        }
        due("ends with ;", x.evening(), -140);
    }
}
