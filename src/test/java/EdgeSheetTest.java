/** The ends that the document names for sheets (promises 24 to 29). */
public final class EdgeSheetTest {
    private static final int BAD = TwelveCars.BAD, NOT = TwelveCars.NOT, NULL = TwelveCars.NULL, CAST = TwelveCars.CAST,
        INDEX = TwelveCars.INDEX, SIZE = TwelveCars.SIZE;
    private static final int MIN = Integer.MIN_VALUE, MAX = Integer.MAX_VALUE;
    private static final int BYTES = 0, SHORTS = 1, INTS = 2;
    private static final Check CHECK = new Check();

    public static void main(String[] args) {
        nothingAtFirst();
        namesOfSheets();
        namesOfLanes();
        howManyItems();
        newRow();
        dropped();
        lanesOfRows();
        placesOfItems();
        bitsOfItems();
        pourFromOneOn();
        pourOfEachSand();
        pourEven();
        filmFromOneOn();
        filmBits();
        copyItems();
        copyTakesAllAhead();
        copyOfNothing();
        copyOfUnlikeLanes();
        copyPlaces();
        copyOfNone();
        CHECK.end();
    }

    private static void due(String call, long got, long want) {
        CHECK.due(call, got, want);
    }

    private static TwelveCars withSheet(int lane, int n) {
        TwelveCars x = new TwelveCars();
        x.limit(999);
        Scene.must("sheet", x.sheet(0, lane, n) == n);
        return x;
    }

    /** What an item is, if it is a sand; or BAD. */
    private static int sandOf(TwelveCars x, int sheet, int lane, int i) {
        int from = i < 12 ? 0 : 12;
        return x.pour(sheet, lane, from) < 0 ? BAD : x.car(i - from, 2);
    }

    private static void nothingAtFirst() {
        CHECK.says("---- 4 sheets 0 .. 3: nothing (at first), or a row of a LANE: 0 bytes, 1 shorts, 2 ints, of 0 to 24 items.");
        TwelveCars x = new TwelveCars();
        for (int sheet = 0; sheet < 4; sheet++) {
            for (int lane = BYTES; lane <= INTS; lane++) {
                due("pour", x.pour(sheet, lane, 0), NULL);
                due("film", x.film(sheet, lane, 0), NULL);
                due("item", x.item(sheet, lane, 0, 0), NULL);
            }
            due("copy from", x.copy(sheet, 0, sheet, 0, 0), NULL);
            due("drop", x.drop(sheet), NULL);
        }
    }

    private static void namesOfSheets() {
        CHECK.says("sheets 0 .. 3");
        TwelveCars x = new TwelveCars();
        for (int sheet = 0; sheet < 4; sheet++) {
            due("sheet " + sheet, x.sheet(sheet, INTS, 12 + sheet), 12 + sheet);
        }
        for (int sheet = 0; sheet < 4; sheet++) {
            due("pour " + sheet, x.pour(sheet, INTS, sheet), 0);
            due("film " + sheet, x.film(sheet, INTS, sheet), 12);
            due("item " + sheet, x.item(sheet, INTS, 11 + sheet, 0), 1);
            due("copy " + sheet, x.copy(sheet, 0, 3 - sheet, 0, 12), 12);
        }
        int[] none = {-1, 4, MIN, MIN + 1, -2, 256, 65536, 1 << 30, MAX};
        for (int sheet : none) {
            due("sheet", x.sheet(sheet, INTS, 12), BAD);
            due("pour", x.pour(sheet, INTS, 0), BAD);
            due("film", x.film(sheet, INTS, 0), BAD);
            due("item", x.item(sheet, INTS, 0, 0), BAD);
            due("drop", x.drop(sheet), BAD);
            due("copy from", x.copy(sheet, 0, 0, 0, 0), BAD);
            due("copy to", x.copy(0, 0, sheet, 0, 0), BAD);
            due("copy both", x.copy(sheet, 0, sheet, 0, 0), BAD);
        }
        for (int sheet = 0; sheet < 4; sheet++) {
            due("drop " + sheet, x.drop(sheet), 12 + sheet);
        }
    }

    private static void namesOfLanes() {
        CHECK.says("0 bytes, 1 shorts, 2 ints");
        TwelveCars x = new TwelveCars();
        int[] none = {-1, 3, MIN, MIN + 1, -2, 256, 65536, 1 << 30, MAX};
        for (int lane = BYTES; lane <= INTS; lane++) {
            due("sheet", x.sheet(1, lane, 12), 12);
            due("item", x.item(1, lane, 0, 5), 1);
            due("pour", x.pour(1, lane, 0), 5);
            due("film", x.film(1, lane, 0), 12);
            for (int one : none) {
                due("no sheet", x.sheet(1, one, 12), BAD);
                due("no item", x.item(1, one, 0, 0), BAD);
                due("no pour", x.pour(1, one, 0), BAD);
                due("no film", x.film(1, one, 0), BAD);
            }
        }
    }

    private static void howManyItems() {
        CHECK.says("A SHEET holds a new row of a LANE: n. BAD: also n above 24; SIZE: n below 0.");
        for (int lane = BYTES; lane <= INTS; lane++) {
            TwelveCars x = new TwelveCars();
            due("25", x.sheet(2, lane, 25), BAD);
            due("most", x.sheet(2, lane, MAX), BAD);
            due("-1", x.sheet(2, lane, -1), SIZE);
            due("least", x.sheet(2, lane, MIN), SIZE);
            due("nothing still", x.drop(2), NULL);
            due("0", x.sheet(2, lane, 0), 0);
            due("no item 0", x.item(2, lane, 0, 1), INDEX);
            due("0 it had", x.drop(2), 0);
            due("24", x.sheet(2, lane, 24), 24);
            due("item 23", x.item(2, lane, 23, 1), 1);
            due("no item 24", x.item(2, lane, 24, 1), INDEX);
            due("25 in its place", x.sheet(2, lane, 25), BAD);
            due("-1 in its place", x.sheet(2, lane, -1), SIZE);
            due("24 it had", x.drop(2), 24);
        }
    }

    private static void newRow() {
        CHECK.says("A SHEET holds a new row of a LANE");
        TwelveCars x = withSheet(INTS, 24);
        for (int i = 0; i < 24; i++) {
            x.item(0, INTS, i, 9);
        }
        x.sheet(0, INTS, 24);
        due("of zeros", x.pour(0, INTS, 0), 0);
        due("to its end", x.pour(0, INTS, 12), 0);
        x.item(0, INTS, 23, 9);
        x.sheet(0, INTS, 12);
        x.sheet(0, INTS, 24);
        due("nothing of one before the last", x.pour(0, INTS, 12), 0);
        x.item(0, INTS, 0, 9);
        x.drop(0);
        x.sheet(0, BYTES, 12);
        due("nothing of one that was dropped", x.pour(0, BYTES, 0), 0);
        due("of its lane", x.pour(0, INTS, 0), CAST);
        due("of its length", x.pour(0, BYTES, 1), INDEX);
    }

    private static void dropped() {
        CHECK.says("A SHEET holds nothing: how many items it had. BAD; NULL.");
        TwelveCars x = new TwelveCars();
        for (int n = 0; n <= 24; n++) {
            x.sheet(3, SHORTS, n);
            due("had", x.drop(3), n);
            due("nothing", x.drop(3), NULL);
        }
        due("no item", x.item(3, SHORTS, 0, 1), NULL);
        due("no film", x.film(3, SHORTS, 0), NULL);
        x.sheet(0, SHORTS, 1);
        x.sheet(1, SHORTS, 2);
        x.drop(0);
        due("another stays", x.drop(1), 2);
    }

    private static void lanesOfRows() {
        CHECK.says("CAST -12 (of SHEETS another LANE)");
        for (int lane = BYTES; lane <= INTS; lane++) {
            TwelveCars x = withSheet(lane, 24);
            for (int other = BYTES; other <= INTS; other++) {
                due("item", x.item(0, other, 0, 1), other == lane ? 1 : CAST);
                due("film", x.film(0, other, 0), other == lane ? 12 : CAST);
                due("pour", x.pour(0, other, 0), other == lane ? x.count(6) : CAST);
            }
        }
    }

    private static void placesOfItems() {
        CHECK.says("Item i of a SHEET, taken as a row of a LANE, becomes v, its lowest bits (with its sign): 1. BAD; NULL; CAST; INDEX.");
        for (int n = 0; n <= 24; n++) {
            TwelveCars x = withSheet(SHORTS, n);
            due("the last of " + n, x.item(0, SHORTS, n - 1, 1), n == 0 ? INDEX : 1);
            due("the first of " + n, x.item(0, SHORTS, 0, 1), n == 0 ? INDEX : 1);
            due("one beyond " + n, x.item(0, SHORTS, n, 1), INDEX);
            due("-1 of " + n, x.item(0, SHORTS, -1, 1), INDEX);
        }
        TwelveCars x = withSheet(SHORTS, 24);
        for (int far : Check.FAR_OFF) {
            due("far off", x.item(0, SHORTS, far, 1), INDEX);
            due("far off by one", x.item(0, SHORTS, far == -2 ? -1 : far + 1, 1), INDEX);
        }
        due("none was written", x.pour(0, SHORTS, 0) + x.pour(0, SHORTS, 12), 0);
        x.item(0, SHORTS, 5, 7);
        due("that one", sandOf(x, 0, SHORTS, 5), 7);
        due("no other", x.pour(0, SHORTS, 0), 7);
    }

    private static void bitsOfItems() {
        CHECK.says("becomes v, its lowest bits (with its sign)");
        int[] values = {0, 99, 100, 127, 128, 255, 256, 256 + 99, 256 + 100, -1, -157, -158, -256, 65535, 65536, 65536 + 99,
            65536 + 256, 32768, -65536, -65536 + 7, -65535 + 98, MIN, MIN + 3, MAX, 1 << 24};
        for (int v : values) {
            int[] held = {(byte) v, (short) v, v};
            for (int lane = BYTES; lane <= INTS; lane++) {
                TwelveCars x = withSheet(lane, 24);
                due("item", x.item(0, lane, 23, v), 1);
                due(v + " in lane " + lane, sandOf(x, 0, lane, 23), held[lane] >= 0 && held[lane] <= 99 ? held[lane] : BAD);
            }
        }
    }

    private static void pourFromOneOn() {
        CHECK.says("SAND of all 12 cars, items of a SHEET, taken as a row of a LANE, from one on, becomes so: together.");
        TwelveCars x = withSheet(BYTES, 24);
        for (int i = 0; i < 24; i++) {
            x.item(0, BYTES, i, i);
        }
        for (int from = 0; from <= 12; from++) {
            due("from " + from, x.pour(0, BYTES, from), 66 + 12 * from);
            due("car 0", x.car(0, 2), from);
            due("car 11", x.car(11, 2), from + 11);
        }
        due("13", x.pour(0, BYTES, 13), INDEX);
        due("-1", x.pour(0, BYTES, -1), INDEX);
        for (int far : Check.FAR_OFF) {
            due("far off", x.pour(0, BYTES, far), INDEX);
        }
        due("MAX less 11", x.pour(0, BYTES, MAX - 11), INDEX);
        x.sheet(0, BYTES, 12);
        due("just twelve", x.pour(0, BYTES, 0), 0);
        due("one beyond", x.pour(0, BYTES, 1), INDEX);
        x.sheet(0, BYTES, 11);
        due("eleven", x.pour(0, BYTES, 0), INDEX);
        x.sheet(0, BYTES, 0);
        due("none", x.pour(0, BYTES, 0), INDEX);
        x = withSheet(BYTES, 12);
        Scene.turnedTo(5, x);
        x.sand(9);
        x.item(0, BYTES, 0, 4);
        due("in place of what there was", x.pour(0, BYTES, 0), 4);
        due("car 0, wherever the foot is", x.car(0, 2), 4);
    }

    private static void pourOfEachSand() {
        CHECK.says("BAD; NULL; CAST; INDEX; NOT: one is not 0 .. 99, the wheel would not be EVEN.");
        for (int car = 0; car < 12; car++) {
            TwelveCars x = withSheet(SHORTS, 12);
            x.item(0, SHORTS, car, 99);
            due("99", x.pour(0, SHORTS, 0), 99);
            x.item(0, SHORTS, car, 100);
            due("100", x.pour(0, SHORTS, 0), NOT);
            x.item(0, SHORTS, car, -1);
            due("-1", x.pour(0, SHORTS, 0), NOT);
            due("99 still", x.car(car, 2), 99);
            due("nothing else", x.count(6), 99);
            x.item(0, SHORTS, car, 0);
            due("0", x.pour(0, SHORTS, 0), 0);
        }
        TwelveCars x = withSheet(INTS, 12);
        x.limit(0);
        for (int car = 0; car < 12; car++) {
            x.item(0, INTS, car, 99);
        }
        due("all 99", x.pour(0, INTS, 0), 1188);
        for (int car = 0; car < 12; car++) {
            x.item(0, INTS, car, 100);
        }
        due("all 100, though even", x.pour(0, INTS, 0), NOT);
        for (int car = 0; car < 12; car++) {
            x.item(0, INTS, car, -1);
        }
        due("all -1, though even", x.pour(0, INTS, 0), NOT);
        due("as it was", x.count(6), 1188);
    }

    private static void pourEven() {
        CHECK.says("the wheel would not be EVEN");
        TwelveCars x = withSheet(INTS, 12);
        x.limit(20);
        x.item(0, INTS, 3, 21);
        due("21", x.pour(0, INTS, 0), NOT);
        due("none is there", x.count(6), 0);
        x.item(0, INTS, 3, 20);
        due("20", x.pour(0, INTS, 0), 20);
        x = Scene.of("g10", 20, "i0;s10");
        x.sheet(0, INTS, 12);
        x.item(0, INTS, 0, 11);
        due("11 and who rides", x.pour(0, INTS, 0), NOT);
        due("10 still", x.car(0, 2), 10);
        x.item(0, INTS, 6, 31);
        due("31 across, and the 11", x.pour(0, INTS, 0), 42);
        x.item(0, INTS, 0, 0);
        due("31 across from 10", x.pour(0, INTS, 0), NOT);
        x.item(0, INTS, 6, 30);
        due("30 across from 10", x.pour(0, INTS, 0), 30);
        due("who rides stays", x.car(0, 0), 10);
    }

    private static void filmFromOneOn() {
        CHECK.says("LOADS of all 12 cars come to a SHEET, taken as a row of a LANE, from one on");
        for (int from = 0; from <= 12; from++) {
            TwelveCars x = Scene.ofSand(999, 1, 2, 3, 4, 5, 6, 7, 8, 9, 10, 11, 12);
            x.sheet(0, SHORTS, 24);
            Scene.write(x, 0, SHORTS, 0, 50, 50, 50, 50, 50, 50, 50, 50, 50, 50, 50, 50);
            Scene.write(x, 0, SHORTS, 12, 50, 50, 50, 50, 50, 50, 50, 50, 50, 50, 50, 50);
            due("from " + from, x.film(0, SHORTS, from), 12);
            due("all of them", x.pour(0, SHORTS, from), 78);
            due("the first", x.car(0, 2), 1);
            due("the last", x.car(11, 2), 12);
            due("those ahead of it stay", from == 0 ? 50 : sandOf(x, 0, SHORTS, from - 1), 50);
            due("those behind it stay", from == 12 ? 50 : sandOf(x, 0, SHORTS, from + 12), 50);
        }
        TwelveCars x = withSheet(SHORTS, 24);
        due("13", x.film(0, SHORTS, 13), INDEX);
        due("-1", x.film(0, SHORTS, -1), INDEX);
        for (int far : Check.FAR_OFF) {
            due("far off", x.film(0, SHORTS, far), INDEX);
        }
        due("MAX less 11", x.film(0, SHORTS, MAX - 11), INDEX);
        x.sheet(0, SHORTS, 12);
        due("just twelve", x.film(0, SHORTS, 0), 12);
        due("one beyond", x.film(0, SHORTS, 1), INDEX);
        x.sheet(0, SHORTS, 11);
        due("eleven", x.film(0, SHORTS, 0), INDEX);
        x.sheet(0, SHORTS, 0);
        due("none", x.film(0, SHORTS, 0), INDEX);
    }

    private static void filmBits() {
        CHECK.says("(their lowest bits, each with its sign): 12. BAD; NULL; CAST; INDEX.");
        // Loads of car 0, and whether a byte of that is a sand.
        int[] loads = {99, 100, 127, 128, 255, 256, 257, 256 + 99, 256 + 100};
        for (int load : loads) {
            TwelveCars x = Scene.of("g99,g99,g99", 999, load <= 99 ? "s" + load : load <= 198 ? "i0;s" + (load - 99)
                : load <= 297 ? "i0;i1;s" + (load - 198) : "i0;i1;i2;s" + (load - 297));
            due("load", x.car(0, 0), load);
            int[] held = {(byte) load, load, load};
            for (int lane = BYTES; lane <= INTS; lane++) {
                x.sheet(lane, lane, 12);
                due("film", x.film(lane, lane, 0), 12);
            }
            x.image();
            for (int lane = BYTES; lane <= INTS; lane++) {
                x.restore();
                int want = held[lane] >= 0 && held[lane] <= 99 ? held[lane] : NOT;
                due(load + " in lane " + lane, x.pour(lane, lane, 0), want);
            }
        }
    }

    private static void copyItems() {
        CHECK.says("n items of a SHEET from i on come to another one (or the same) from j on");
        TwelveCars x = withSheet(INTS, 24);
        x.sheet(1, INTS, 12);
        for (int i = 0; i < 24; i++) {
            x.item(0, INTS, i, i + 1);
        }
        due("twelve", x.copy(0, 12, 1, 0, 12), 12);
        due("came", x.pour(1, INTS, 0), 222);
        due("in their order", x.car(0, 2), 13);
        due("one", x.copy(0, 23, 1, 11, 1), 1);
        due("came", sandOf(x, 1, INTS, 11), 24);
        due("one, to the first", x.copy(0, 0, 1, 0, 1), 1);
        due("came", sandOf(x, 1, INTS, 0), 1);
        due("its neighbour stays", sandOf(x, 1, INTS, 1), 14);
        due("the source stays", sandOf(x, 0, INTS, 23), 24);
        x.item(0, INTS, 3, MIN);
        x.copy(0, 3, 1, 0, 1);
        due("what is no sand comes, too", x.pour(1, INTS, 0), NOT);
        x.sheet(2, INTS, 24);
        due("all", x.copy(0, 0, 2, 0, 24), 24);
        due("to the last", sandOf(x, 2, INTS, 23), 24);
    }

    private static void copyTakesAllAhead() {
        CHECK.says("as if all were taken ahead: n");
        for (int lane = BYTES; lane <= INTS; lane++) {
            for (int shift = 1; shift <= 12; shift++) {
                TwelveCars x = withSheet(lane, 24);
                for (int i = 0; i < 24; i++) {
                    x.item(0, lane, i, i);
                }
                due("forwards by " + shift, x.copy(0, 0, 0, shift, 12), 12);
                due("came", x.pour(0, lane, shift), 66);
                due("the first", x.car(0, 2), 0);
                due("the last", x.car(11, 2), 11);
                due("what is ahead stays", sandOf(x, 0, lane, shift - 1), shift - 1);
                x = withSheet(lane, 24);
                for (int i = 0; i < 24; i++) {
                    x.item(0, lane, i, i);
                }
                due("backwards by " + shift, x.copy(0, 12, 0, 12 - shift, 12), 12);
                due("came", x.pour(0, lane, 12 - shift), 66 + 144);
                due("the first", x.car(0, 2), 12);
                due("the last", x.car(11, 2), 23);
                due("what is behind stays", sandOf(x, 0, lane, 24 - shift), 24 - shift);
            }
        }
        TwelveCars x = withSheet(BYTES, 12);
        x.item(0, BYTES, 0, 9);
        due("onto itself", x.copy(0, 0, 0, 0, 12), 12);
        due("as it was", x.pour(0, BYTES, 0), 9);
    }

    private static void copyOfNothing() {
        CHECK.says("BAD; NULL (either)");
        TwelveCars x = withSheet(INTS, 12);
        due("from nothing", x.copy(1, 0, 0, 0, 1), NULL);
        due("to nothing", x.copy(0, 0, 1, 0, 1), NULL);
        due("both", x.copy(1, 0, 2, 0, 1), NULL);
        due("none of it", x.copy(1, 0, 0, 0, 0), NULL);
    }

    private static void copyOfUnlikeLanes() {
        CHECK.says("CAST: of unlike LANES");
        TwelveCars x = new TwelveCars();
        for (int lane = BYTES; lane <= INTS; lane++) {
            x.sheet(lane, lane, 12);
        }
        for (int from = BYTES; from <= INTS; from++) {
            for (int to = BYTES; to <= INTS; to++) {
                x.sheet(3, to, 12);
                due("some", x.copy(from, 0, 3, 0, 5), from == to ? 5 : CAST);
                due("none", x.copy(from, 0, 3, 0, 0), from == to ? 0 : CAST);
            }
        }
    }

    private static void copyPlaces() {
        CHECK.says("INDEX (n below 0, too;");
        TwelveCars x = withSheet(SHORTS, 24);
        x.sheet(1, SHORTS, 10);
        due("to the end", x.copy(0, 14, 1, 0, 10), 10);
        due("beyond the source's", x.copy(0, 15, 1, 0, 10), INDEX);
        due("beyond the goal's", x.copy(0, 0, 1, 1, 10), INDEX);
        due("more than the goal has", x.copy(0, 0, 1, 0, 11), INDEX);
        due("more than the source has", x.copy(1, 0, 0, 0, 11), INDEX);
        due("all of it", x.copy(1, 0, 0, 14, 10), 10);
        due("n -1", x.copy(0, 0, 1, 0, -1), INDEX);
        due("n least", x.copy(0, 0, 1, 0, MIN), INDEX);
        due("n most", x.copy(0, 0, 1, 0, MAX), INDEX);
        due("n -1 from the end", x.copy(0, 24, 1, 10, -1), INDEX);
        due("i -1", x.copy(0, -1, 1, 0, 1), INDEX);
        due("j -1", x.copy(0, 0, 1, -1, 1), INDEX);
        due("i and n that wrap round", x.copy(0, MAX, 1, 0, 1), INDEX);
        due("j and n that wrap round", x.copy(0, 0, 1, MAX, 1), INDEX);
        due("1 and most", x.copy(0, 1, 1, 1, MAX), INDEX);
        due("most and most", x.copy(0, MAX, 1, MAX, MAX), INDEX);
        due("least and most", x.copy(0, MIN, 1, 0, MAX), INDEX);
        due("least and least", x.copy(0, MIN, 1, MIN, MIN), INDEX);
        for (int far : Check.FAR_OFF) {
            due("i far off", x.copy(0, far, 1, 0, 1), INDEX);
            due("j far off", x.copy(0, 0, 1, far, 1), INDEX);
            due("n far off", x.copy(0, 0, 1, 0, far), INDEX);
        }
    }

    private static void copyOfNone() {
        CHECK.says("with n 0, too, if i or j is below 0 or above how many there are)");
        TwelveCars x = withSheet(SHORTS, 24);
        x.sheet(1, SHORTS, 10);
        x.sheet(2, SHORTS, 0);
        due("at the ends", x.copy(0, 24, 1, 10, 0), 0);
        due("at the starts", x.copy(0, 0, 1, 0, 0), 0);
        due("of a row of none", x.copy(2, 0, 2, 0, 0), 0);
        due("i above", x.copy(0, 25, 1, 0, 0), INDEX);
        due("j above", x.copy(0, 0, 1, 11, 0), INDEX);
        due("i below", x.copy(0, -1, 1, 0, 0), INDEX);
        due("j below", x.copy(0, 0, 1, -1, 0), INDEX);
        due("i above none", x.copy(2, 1, 0, 0, 0), INDEX);
        due("j above none", x.copy(0, 0, 2, 1, 0), INDEX);
        for (int far : Check.FAR_OFF) {
            due("i far off", x.copy(0, far, 1, 0, 0), INDEX);
            due("j far off", x.copy(0, 0, 1, far, 0), INDEX);
        }
    }
}
