import java.util.ArrayList;
import java.util.List;

/** What later calls show of an object, each as a call with its answer. */
final class Sight {
    private final TwelveCars x;
    private final List<String> seen = new ArrayList<>();

    private Sight(TwelveCars x) {
        this.x = x;
    }

    /** People, cars, how far it is out of true: 101 calls, which change nothing. */
    static List<String> ofWheel(TwelveCars x) {
        Sight sight = new Sight(x);
        sight.wheel();
        return sight.seen;
    }

    /** All there is, the limit, the tape, sheets and the image with it: some 300 calls, behind which nothing is as it was. */
    static List<String> ofAll(TwelveCars x) {
        Sight sight = new Sight(x);
        sight.wheel();
        sight.searches();
        sight.tapeAndLimit();
        sight.sheets();
        sight.image();
        return sight.seen;
    }

    private void see(String call, int answer) {
        seen.add(call + " answered " + answer);
    }

    private void wheel() {
        for (int what = 0; what < 7; what++) {
            see("count(" + what + ")", x.count(what));
        }
        for (int what = 0; what < 6; what++) {
            see("out(" + what + ")", x.out(what));
        }
        for (int car = 0; car < 12; car++) {
            for (int what = 0; what < 4; what++) {
                see("car(" + car + ", " + what + ")", x.car(car, what));
            }
        }
        for (int one = 0; one < 10; one++) {
            for (int what = 0; what < 4; what++) {
                see("told(" + one + ", " + what + ")", x.told(one, what));
            }
        }
    }

    private void searches() {
        see("may(0)", x.may(0));
        see("may(1)", x.may(1));
        see("empty()", x.empty());
        see("sure(4)", x.sure(4));
        see("worst(4, 0)", x.worst(4, 0));
        for (int one = 0; one < 10; one++) {
            see("least(" + one + ", 0)", x.least(one, 0));
        }
    }

    /** The tape is read as an evening under the limit as it is, and shows all of it that may be done. */
    private void tapeAndLimit() {
        see("type(32, 1)", x.type(' ', 1));
        see("evening()", x.evening());
        see("count(1)", x.count(1));
        see("count(4)", x.count(4));
        see("count(6)", x.count(6));
        see("limit(999)", x.limit(999));
    }

    private void sheets() {
        for (int sheet = 0; sheet < 4; sheet++) {
            for (int lane = 0; lane < 3; lane++) {
                see("pour(" + sheet + ", " + lane + ", 0)", x.pour(sheet, lane, 0));
                for (int car = 0; car < 12 && lane == sheet % 3; car++) {
                    see("car(" + car + ", 2)", x.car(car, 2));
                }
            }
            see("pour(" + sheet + ", 0, 12)", x.pour(sheet, 0, 12));
            see("count(6)", x.count(6));
            see("drop(" + sheet + ")", x.drop(sheet));
        }
    }

    private void image() {
        see("restore()", x.restore());
        wheel();
        see("limit(999)", x.limit(999));
    }
}
