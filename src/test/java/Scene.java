/** Wheels made ready for a test; what can't be made ready as asked ends the test. */
final class Scene {
    private Scene() {
    }

    static TwelveCars of(String people) {
        TwelveCars x = new TwelveCars();
        must("people " + people, Check.people(x, people) > 0);
        return x;
    }

    static TwelveCars of(String people, int limit, String evening) {
        TwelveCars x = of(people);
        must("limit " + limit, x.limit(limit) == 20);
        happens(x, evening);
        return x;
    }

    /** A wheel without people, with sand in the cars from 0 on, and the limit lowered behind it. */
    static TwelveCars ofSand(int limit, int... sands) {
        TwelveCars x = new TwelveCars();
        x.limit(999);
        x.sheet(3, 2, 12);
        for (int i = 0; i < sands.length; i++) {
            x.item(3, 2, i, sands[i]);
        }
        must("pour", x.pour(3, 2, 0) >= 0);
        x.drop(3);
        must("limit " + limit, x.limit(limit) == 999);
        return x;
    }

    static void happens(TwelveCars x, String evening) {
        must("evening " + evening, Check.evening(x, evening) == evening.split(";").length);
    }

    static TwelveCars atMinute(int minute) {
        return turnedTo(minute, new TwelveCars());
    }

    static TwelveCars turnedTo(int minute, TwelveCars x) {
        while (x.count(1) < minute) {
            x.turn(Math.min(60, minute - x.count(1)));
        }
        must("minute " + minute, x.count(1) == minute);
        return x;
    }

    /** A row of twelve as a sheet's items from one on. */
    static void write(TwelveCars x, int sheet, int lane, int from, int... items) {
        for (int i = 0; i < items.length; i++) {
            must("item", x.item(sheet, lane, from + i, items[i]) == 1);
        }
    }

    static void must(String what, boolean so) {
        if (!so) {
            throw new IllegalStateException("could not be made ready: " + what);
        }
    }
}
