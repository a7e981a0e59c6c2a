import java.util.function.Supplier;
import java.util.function.ToIntFunction;

/** Every refusal of every call; of two at once the first that the call names; and that none changes anything. */
public final class RefusalTest {
    private static final int BAD = TwelveCars.BAD, NOT = TwelveCars.NOT, FULL = TwelveCars.FULL, NONE = TwelveCars.NONE,
        NULL = TwelveCars.NULL, CAST = TwelveCars.CAST, INDEX = TwelveCars.INDEX, SIZE = TwelveCars.SIZE;
    private static final int FAR = 100000000;
    private static final int MIN = Integer.MIN_VALUE, MAX = Integer.MAX_VALUE;
    private static final String SOME_EVENING = "s1;t;i5;s3";
    private static final Check CHECK = new Check();

    private static Supplier<TwelveCars> scene;

    public static void main(String[] args) {
        CHECK.says("What is refused changes nothing, but as told.");
        scene = () -> inUse(SOME_EVENING, 3);
        ofPeopleAndTheWheel();
        ofWhatHappens();
        ofSearches();
        ofPour();
        ofFilmAndItem();
        ofSheets();
        ofCopy();
        atTheFootOfThoseWhoRide();
        whereAllIsFull();
        withoutAnImage();
        whereNobodyCanGetOut();
        askingChangesNothing();
        CHECK.says("(whatever is answered)");
        textsEmptyTheTapeAlone();
        CHECK.says("of several the first that a call names");
        scene = () -> inUse(SOME_EVENING, 3);
        twoAtOnce();
        twoAtOnceOfSheets();
        twoAtOnceWhereAllIsFull();
        CHECK.end();
    }

    /** People who wait, ride and are gone, an image of another state, three sheets of four, something on the tape. */
    private static TwelveCars inUse(String tape, int minute) {
        TwelveCars x = Scene.of("g20,c8,s30,b15,g10,g1,g12,c5", 60, "i0;i1;s4");
        x.image();
        Scene.happens(x, "t;i3;t;i4;o4;s2;t");
        x.sheet(0, 0, 24);
        Scene.write(x, 0, 0, 0, 1, 2, 3, 4, 5, 6, 7, 8, 9, 10, 11, 12);
        Scene.write(x, 0, 0, 12, 99, 99, 99);
        x.sheet(1, 1, 12);
        Scene.write(x, 1, 1, 0, 9, 8, 7, 6, 5, 4, 3, 2, 1);
        x.sheet(2, 2, 12);
        Scene.write(x, 2, 2, 3, -1);
        Scene.turnedTo(minute, x);
        Scene.must("limit", x.limit(50) == 60);
        Check.type(x, tape);
        return x;
    }

    /** Ten people, nine of whom ride, in the last minute, with a full tape. */
    private static TwelveCars full() {
        TwelveCars x = Scene.of("g1,g1,g1,g1,g1,g1,g1,g1,g1,c1", 20, "i0;i1;i2;t;i3;i4;i5;t;i6;i7;i8;t");
        Scene.turnedTo(999, x);
        x.sheet(0, 0, 24);
        StringBuilder tape = new StringBuilder("s1");
        while (tape.length() < 120) {
            tape.append(tape.length() % 3 == 2 ? ';' : tape.length() % 3 == 0 ? 's' : '2');
        }
        Scene.must("tape", Check.type(x, tape.substring(0, 119) + " ") == 120);
        return x;
    }

    private static void refused(String call, ToIntFunction<TwelveCars> made, int answer) {
        TwelveCars x = scene.get();
        CHECK.due(call, made.applyAsInt(x), answer);
        CHECK.same("behind " + call, Sight.ofAll(x), Sight.ofAll(scene.get()));
    }

    private static void ofPeopleAndTheWheel() {
        refused("person(-1, 5)", x -> x.person(-1, 5), BAD);
        refused("person(4, 5)", x -> x.person(4, 5), BAD);
        refused("person(0, 0)", x -> x.person(0, 0), BAD);
        refused("person(0, 100)", x -> x.person(0, 100), BAD);
        refused("told(8, 0)", x -> x.told(8, 0), BAD);
        refused("told(-1, 0)", x -> x.told(-1, 0), BAD);
        refused("told(0, 4)", x -> x.told(0, 4), BAD);
        refused("told(0, -1)", x -> x.told(0, -1), BAD);
        refused("told(2, 3)", x -> x.told(2, 3), NONE);
        refused("car(12, 0)", x -> x.car(12, 0), BAD);
        refused("car(-1, 0)", x -> x.car(-1, 0), BAD);
        refused("car(0, 4)", x -> x.car(0, 4), BAD);
        refused("car(0, -1)", x -> x.car(0, -1), BAD);
        refused("limit(-1)", x -> x.limit(-1), BAD);
        refused("limit(1000)", x -> x.limit(1000), BAD);
        refused("limit(40)", x -> x.limit(40), NOT);
        refused("out(-1)", x -> x.out(-1), BAD - FAR);
        refused("out(6)", x -> x.out(6), BAD - FAR);
        refused("type of no byte", x -> x.type('t', 0), BAD);
        refused("type of nine", x -> x.type('t', 9), BAD);
        refused("type of 31", x -> x.type(Check.packed(";t;") << 8 | 31, 4), BAD);
        refused("type of 127 ahead", x -> x.type(127L << 24 | Check.packed(";t;"), 4), BAD);
        refused("count(-1)", x -> x.count(-1), BAD);
        refused("count(7)", x -> x.count(7), BAD);
    }

    private static void ofWhatHappens() {
        refused("board of nobody", x -> x.board(8), BAD);
        refused("board(-1)", x -> x.board(-1), BAD);
        refused("board of one who rides", x -> x.board(0), BAD);
        refused("board of one who is gone", x -> x.board(4), BAD);
        refused("board out of true", x -> x.board(2), NOT);
        refused("board of a child alone", x -> x.board(7), NOT);
        refused("leave of nobody", x -> x.leave(8), BAD);
        refused("leave(-1)", x -> x.leave(-1), BAD);
        refused("leave of one who waits", x -> x.leave(2), BAD);
        refused("leave of one who is gone", x -> x.leave(4), BAD);
        refused("leave of one elsewhere", x -> x.leave(0), BAD);
        refused("sand(-1)", x -> x.sand(-1), BAD);
        refused("sand(100)", x -> x.sand(100), BAD);
        refused("sand(99)", x -> x.sand(99), NOT);
        refused("turn(0)", x -> x.turn(0), BAD);
        refused("turn(61)", x -> x.turn(61), BAD);
        refused("turn(-1)", x -> x.turn(-1), BAD);
        refused("may(-1)", x -> x.may(-1), BAD);
        refused("may(2)", x -> x.may(2), BAD);
    }

    private static void ofSearches() {
        refused("soonest of none", x -> x.soonest(0, 0), BAD);
        refused("soonest of one who rides", x -> x.soonest(5, 0), BAD);
        refused("soonest of one who is gone", x -> x.soonest(20, 0), BAD);
        refused("soonest of nobody", x -> x.soonest(256 + 4, 0), BAD);
        refused("soonest(4, -1)", x -> x.soonest(4, -1), BAD);
        refused("soonest(4, 3)", x -> x.soonest(4, 3), BAD);
        refused("soonest of a child that nobody can be with", x -> x.soonest(128, 0), NONE);
        refused("soonest together", x -> x.soonest(4 + 32 + 64, 2), NONE);
        refused("when of none", x -> x.when(0, 0, 2), BAD);
        refused("when of one who rides", x -> x.when(5, 0, 2), BAD);
        refused("when(4, 3, 2)", x -> x.when(4, 3, 2), BAD);
        refused("when of one not of the set", x -> x.when(4, 0, 5), BAD);
        refused("when(4, 0, -1)", x -> x.when(4, 0, -1), BAD);
        refused("when of a child that nobody can be with", x -> x.when(128, 0, 7), NONE);
        refused("least of one who rides", x -> x.least(0, 0), BAD);
        refused("least of one who is gone", x -> x.least(4, 0), BAD);
        refused("least of nobody", x -> x.least(8, 0), BAD);
        refused("least(2, 2)", x -> x.least(2, 2), BAD);
        refused("least(2, -1)", x -> x.least(2, -1), BAD);
        refused("least of a child alone", x -> x.least(7, 0), NONE);
        refused("sure(-1)", x -> x.sure(-1), BAD);
        refused("sure(10)", x -> x.sure(10), BAD);
        refused("worst(-1, 0)", x -> x.worst(-1, 0), BAD - FAR);
        refused("worst(10, 0)", x -> x.worst(10, 0), BAD - FAR);
        refused("worst(0, -1)", x -> x.worst(0, -1), BAD - FAR);
        refused("worst(0, 2)", x -> x.worst(0, 2), BAD - FAR);
    }

    private static void ofPour() {
        refused("pour(-1, 0, 0)", x -> x.pour(-1, 0, 0), BAD);
        refused("pour(4, 0, 0)", x -> x.pour(4, 0, 0), BAD);
        refused("pour(0, -1, 0)", x -> x.pour(0, -1, 0), BAD);
        refused("pour(0, 3, 0)", x -> x.pour(0, 3, 0), BAD);
        refused("pour of nothing", x -> x.pour(3, 0, 0), NULL);
        refused("pour of another lane", x -> x.pour(0, 1, 0), CAST);
        refused("pour(0, 0, -1)", x -> x.pour(0, 0, -1), INDEX);
        refused("pour(0, 0, 13)", x -> x.pour(0, 0, 13), INDEX);
        refused("pour of what is not even", x -> x.pour(0, 0, 12), NOT);
        refused("pour of one below 0", x -> x.pour(2, 2, 0), NOT);
    }

    private static void ofFilmAndItem() {
        refused("film(-1, 0, 0)", x -> x.film(-1, 0, 0), BAD);
        refused("film(4, 0, 0)", x -> x.film(4, 0, 0), BAD);
        refused("film(0, -1, 0)", x -> x.film(0, -1, 0), BAD);
        refused("film(0, 3, 0)", x -> x.film(0, 3, 0), BAD);
        refused("film to nothing", x -> x.film(3, 0, 0), NULL);
        refused("film to another lane", x -> x.film(0, 1, 0), CAST);
        refused("film(0, 0, -1)", x -> x.film(0, 0, -1), INDEX);
        refused("film(0, 0, 13)", x -> x.film(0, 0, 13), INDEX);
        refused("film(1, 1, 1)", x -> x.film(1, 1, 1), INDEX);
        refused("item(-1, 0, 0, 9)", x -> x.item(-1, 0, 0, 9), BAD);
        refused("item(4, 0, 0, 9)", x -> x.item(4, 0, 0, 9), BAD);
        refused("item(0, -1, 0, 9)", x -> x.item(0, -1, 0, 9), BAD);
        refused("item(0, 3, 0, 9)", x -> x.item(0, 3, 0, 9), BAD);
        refused("item of nothing", x -> x.item(3, 0, 0, 9), NULL);
        refused("item of another lane", x -> x.item(0, 2, 0, 9), CAST);
        refused("item(0, 0, -1, 9)", x -> x.item(0, 0, -1, 9), INDEX);
        refused("item(0, 0, 24, 9)", x -> x.item(0, 0, 24, 9), INDEX);
        refused("item(1, 1, 12, 9)", x -> x.item(1, 1, 12, 9), INDEX);
    }

    private static void ofSheets() {
        refused("sheet(-1, 0, 5)", x -> x.sheet(-1, 0, 5), BAD);
        refused("sheet(4, 0, 5)", x -> x.sheet(4, 0, 5), BAD);
        refused("sheet(0, -1, 5)", x -> x.sheet(0, -1, 5), BAD);
        refused("sheet(0, 3, 5)", x -> x.sheet(0, 3, 5), BAD);
        refused("sheet(0, 1, 25)", x -> x.sheet(0, 1, 25), BAD);
        refused("sheet(0, 1, -1)", x -> x.sheet(0, 1, -1), SIZE);
        refused("sheet(3, 1, 25)", x -> x.sheet(3, 1, 25), BAD);
        refused("sheet(3, 1, -1)", x -> x.sheet(3, 1, -1), SIZE);
        refused("drop(-1)", x -> x.drop(-1), BAD);
        refused("drop(4)", x -> x.drop(4), BAD);
        refused("drop of nothing", x -> x.drop(3), NULL);
    }

    private static void ofCopy() {
        refused("copy from -1", x -> x.copy(-1, 0, 0, 0, 1), BAD);
        refused("copy from 4", x -> x.copy(4, 0, 0, 0, 1), BAD);
        refused("copy to -1", x -> x.copy(0, 0, -1, 0, 1), BAD);
        refused("copy to 4", x -> x.copy(0, 0, 4, 0, 1), BAD);
        refused("copy from nothing", x -> x.copy(3, 0, 0, 0, 1), NULL);
        refused("copy to nothing", x -> x.copy(0, 0, 3, 0, 1), NULL);
        refused("copy to another lane", x -> x.copy(0, 0, 1, 0, 5), CAST);
        refused("copy of n below 0", x -> x.copy(0, 3, 0, 5, -1), INDEX);
        refused("copy from below 0", x -> x.copy(0, -1, 0, 5, 3), INDEX);
        refused("copy to below 0", x -> x.copy(0, 5, 0, -1, 3), INDEX);
        refused("copy beyond the end from", x -> x.copy(0, 20, 0, 0, 5), INDEX);
        refused("copy beyond the end to", x -> x.copy(0, 0, 0, 20, 5), INDEX);
        refused("copy of none beyond the end", x -> x.copy(0, 25, 0, 0, 0), INDEX);
    }

    private static void atTheFootOfThoseWhoRide() {
        scene = () -> inUse(SOME_EVENING, 12);
        refused("board of a fourth", x -> x.board(2), NOT);
        refused("board of one out of true", x -> x.board(6), NOT);
        refused("leave of one with a child", x -> x.leave(0), NOT);
        refused("sand(40)", x -> x.sand(40), NOT);
        scene = () -> {
            TwelveCars x = inUse(SOME_EVENING, 6);
            Scene.must("sand", x.sand(93) == 0);
            return Scene.turnedTo(12, x);
        };
        refused("leave out of true", x -> x.leave(1), NOT);
        refused("sand too little", x -> x.sand(0), NOT);
    }

    private static void whereAllIsFull() {
        scene = RefusalTest::full;
        refused("person(0, 1)", x -> x.person(0, 1), FULL);
        refused("type of one", x -> x.type(' ', 1), FULL);
        refused("type of eight", x -> x.type(Check.packed("        "), 8), FULL);
        refused("turn(1)", x -> x.turn(1), FULL);
        refused("turn(60)", x -> x.turn(60), FULL);
        refused("sure(0)", x -> x.sure(0), FULL);
        refused("worst(9, 0)", x -> x.worst(9, 0), FULL - FAR);
        refused("worst(9, 1)", x -> x.worst(9, 1), FULL - FAR);
    }

    private static void withoutAnImage() {
        scene = () -> Scene.of("g5,g6", 30, "i0;s5;t;i1");
        refused("restore()", x -> x.restore(), NONE);
    }

    private static void whereNobodyCanGetOut() {
        scene = () -> {
            TwelveCars x = Scene.of("g21,g21,g20,g20", 99, "i0;i1;t;t;t;t;t;t;i2;i3");
            Scene.must("limit", x.limit(20) == 99);
            return x;
        };
        refused("empty()", x -> x.empty(), NONE);
    }

    private static void askingChangesNothing() {
        scene = () -> inUse(SOME_EVENING, 3);
        refused("soonest(32, 0)", x -> x.soonest(32, 0), 0);
        refused("soonest(32 + 64, 1)", x -> x.soonest(32 + 64, 1), 1);
        refused("when(32 + 64, 1, 6)", x -> x.when(32 + 64, 1, 6), 1);
        refused("empty()", x -> x.empty(), 10);
        refused("least(5, 0)", x -> x.least(5, 0), 0);
        refused("least(6, 0)", x -> x.least(6, 0), 1);
        refused("may(0)", x -> x.may(0), 32);
        refused("sure(9)", x -> x.sure(9), 0);
        refused("image kept of what is there, and restored",
            x -> x.sure(0) + x.may(1) + x.count(0) + x.car(0, 0) + x.told(0, 1), 1 + 0 + 8 + 32 + 20);
    }

    /** A text that is refused is gone from the tape, and has done nothing else. */
    private static void textsEmptyTheTapeAlone() {
        String[] noPeople = {"g", "g5,c100", "g5,c10,", "x", " "};
        int[] faults = {-21, -24, -27, -20, -21};
        for (int i = 0; i < noPeople.length; i++) {
            String text = noPeople[i];
            emptied("people of '" + text + "'", inUse(text, 3), x -> x.people(), faults[i], inUse("", 3));
        }
        emptied("people of nothing", inUse("", 3), x -> x.people(), -20, inUse("", 3));
        String[] noEvenings = {"t;", "s9;s100", "i5;o", "i5;i6;s3;t;x", " "};
        int[] places = {-22, -24, -24, -31, -21};
        for (int i = 0; i < noEvenings.length; i++) {
            String text = noEvenings[i];
            emptied("evening of '" + text + "'", inUse(text, 3), x -> x.evening(), places[i], inUse("", 3));
        }
        emptied("evening of nothing", inUse("", 3), x -> x.evening(), -20, inUse("", 3));
        String[] none = {"i8;t", "i9", "i0;t", "i4", "i2;t", "i7", "o5;t", "o0", "o4", "o8", "s99;t"};
        for (String text : none) {
            emptied("evening of '" + text + "'", inUse(text, 3), x -> x.evening(), 0, inUse("", 3));
        }
        emptied("people where sand alone is not even", unevenSand("g5,g5,g5"), x -> x.people(), NOT, unevenSand(""));
        emptied("a fault where sand alone is not even", unevenSand("g5,g5,g"), x -> x.people(), -27, unevenSand(""));
    }

    private static void emptied(String call, TwelveCars x, ToIntFunction<TwelveCars> made, int answer, TwelveCars twin) {
        CHECK.due(call, made.applyAsInt(x), answer);
        CHECK.same("behind " + call, Sight.ofAll(x), Sight.ofAll(twin));
    }

    private static TwelveCars unevenSand(String tape) {
        TwelveCars x = Scene.of("g5,c3,g9", 20, "i0;i1;t;t;t;t;t;t;s28");
        Check.type(x, tape);
        return x;
    }

    private static void twoAtOnce() {
        refused("limit: BAD ahead of NOT", x -> x.limit(-1), BAD);
        refused("limit: BAD ahead of NOT", x -> x.limit(MIN), BAD);
        refused("sand: BAD ahead of NOT", x -> x.sand(100), BAD);
        refused("board: BAD ahead of NOT", x -> x.board(0), BAD);
        refused("leave: BAD ahead of NOT", x -> x.leave(0), BAD);
        refused("soonest: BAD ahead of NONE, how", x -> x.soonest(128, 3), BAD);
        refused("soonest: BAD ahead of NONE, who", x -> x.soonest(128 + 1, 0), BAD);
        refused("when: BAD ahead of NONE, person", x -> x.when(128, 0, 6), BAD);
        refused("when: BAD ahead of NONE, how", x -> x.when(128, -1, 7), BAD);
        refused("when: BAD ahead of NONE, who", x -> x.when(128 + 1, 0, 7), BAD);
        refused("least: BAD ahead of NONE", x -> x.least(7, 2), BAD);
        CHECK.due("people: FAULT ahead of NOT", unevenSand("g5,").people(), -23);
        CHECK.due("people: NOT", unevenSand("g5").people(), NOT);
        CHECK.due("evening: FAULT ahead of what may not be", inUse("i2;x", 3).evening(), -23);
        CHECK.due("people: of two FAULTS the first", inUse("g100,x", 3).people(), -21);
        CHECK.due("evening: of two FAULTS the first", inUse("s100;x", 3).evening(), -21);
    }

    private static void twoAtOnceOfSheets() {
        CHECK.says("what the machine finds: NULL -11, INDEX -13, SIZE -14 (NULL, CAST, INDEX, SIZE in this order, behind BAD)");
        refused("pour: BAD ahead of NULL", x -> x.pour(3, 3, 0), BAD);
        refused("pour: BAD ahead of INDEX", x -> x.pour(0, -1, 13), BAD);
        refused("pour: BAD ahead of all", x -> x.pour(4, 3, -1), BAD);
        refused("pour: NULL ahead of INDEX", x -> x.pour(3, 0, -1), NULL);
        refused("pour: CAST ahead of INDEX", x -> x.pour(0, 1, 13), CAST);
        refused("pour: CAST ahead of NOT", x -> x.pour(0, 1, 12), CAST);
        refused("pour: INDEX ahead of NOT", x -> x.pour(2, 2, 1), INDEX);
        refused("pour: INDEX ahead of NOT", x -> x.pour(2, 2, MAX), INDEX);
        refused("film: BAD ahead of NULL", x -> x.film(3, 3, 0), BAD);
        refused("film: BAD ahead of INDEX", x -> x.film(0, 3, 13), BAD);
        refused("film: BAD ahead of all", x -> x.film(-1, 0, -1), BAD);
        refused("film: NULL ahead of INDEX", x -> x.film(3, 0, 99), NULL);
        refused("film: CAST ahead of INDEX", x -> x.film(0, 2, -1), CAST);
        refused("item: BAD ahead of NULL", x -> x.item(3, 3, 0, 5), BAD);
        refused("item: BAD ahead of INDEX", x -> x.item(0, 3, 24, 5), BAD);
        refused("item: BAD ahead of all", x -> x.item(4, 0, -1, 5), BAD);
        refused("item: NULL ahead of INDEX", x -> x.item(3, 0, -1, 5), NULL);
        refused("item: CAST ahead of INDEX", x -> x.item(1, 0, 12, 5), CAST);
        refused("sheet: BAD ahead of SIZE, sheet", x -> x.sheet(4, 0, -1), BAD);
        refused("sheet: BAD ahead of SIZE, lane", x -> x.sheet(0, 3, -1), BAD);
        refused("sheet: BAD ahead of SIZE, lane", x -> x.sheet(3, -1, MIN), BAD);
        refused("copy: BAD ahead of NULL", x -> x.copy(3, 0, 4, 0, 1), BAD);
        refused("copy: BAD ahead of NULL", x -> x.copy(-1, 0, 3, 0, 1), BAD);
        refused("copy: BAD ahead of INDEX", x -> x.copy(4, -1, 0, 0, 1), BAD);
        refused("copy: NULL ahead of INDEX, from", x -> x.copy(3, -1, 0, 0, 1), NULL);
        refused("copy: NULL ahead of INDEX, to", x -> x.copy(0, 0, 3, 0, -1), NULL);
        refused("copy: NULL, though of another lane", x -> x.copy(2, 0, 3, 0, 1), NULL);
        refused("copy: CAST ahead of INDEX, i", x -> x.copy(0, 25, 1, 0, 0), CAST);
        refused("copy: CAST ahead of INDEX, n", x -> x.copy(0, 0, 1, 0, -1), CAST);
    }

    private static void twoAtOnceWhereAllIsFull() {
        CHECK.says("of several the first that a call names");
        scene = RefusalTest::full;
        refused("person: BAD ahead of FULL, kind", x -> x.person(4, 1), BAD);
        refused("person: BAD ahead of FULL, weight", x -> x.person(0, 0), BAD);
        refused("type: BAD ahead of FULL, n", x -> x.type(' ', 0), BAD);
        refused("type: BAD ahead of FULL, n", x -> x.type(' ', 9), BAD);
        refused("type: BAD ahead of FULL, byte", x -> x.type(31, 1), BAD);
        refused("turn: BAD ahead of FULL", x -> x.turn(61), BAD);
        refused("turn: BAD ahead of FULL", x -> x.turn(MAX), BAD);
        refused("sure: BAD ahead of FULL", x -> x.sure(10), BAD);
        refused("worst: BAD ahead of FULL, slip", x -> x.worst(-1, 0), BAD - FAR);
        refused("worst: BAD ahead of FULL, what", x -> x.worst(0, 2), BAD - FAR);
    }
}
