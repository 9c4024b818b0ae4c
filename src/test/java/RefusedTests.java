import java.util.function.Supplier;

/**
 * "Refused, and nothing changes, the first of these: BAD .., STATE .., FULL." Each refused
 * call is asked of an object; then all that it shows and holds must be as in its twin,
 * which was not asked.
 */
public final class RefusedTests {
    private static final int BAD = -1, STATE = -2, FULL = -3, NO = -1000000;

    private interface Call {
        long ask(OvenNoses x);
    }

    public static void main(String[] args) {
        badCalls();
        badCallsOfWhat();
        stateCalls();
        fullCalls();
        badAheadOfState();
        badAheadOfFull();
        stateAheadOfFull();
        atTheLastMinute();
        withNothingTold();
        withoutImages();
        faults();
        Check.end();
    }

    private static void refused(String what, Supplier<OvenNoses> made, long answer, Call call) {
        OvenNoses asked = made.get();
        Check.due(what, call.ask(asked), answer);
        Check.due(what + ", again", call.ask(asked), answer);
        Check.holds(what + ": nothing changes", View.ofAll(asked).equals(View.ofAll(made.get())));
    }

    /**
     * Three ovens, the third SHUT; dough 0 DONE, 1 IN, 2 OUT, 3 not RISEN, 4 GONE SOUR; image 0
     * kept; two LED; a text that waits; eight steps.
     */
    private static OvenNoses busy() {
        OvenNoses x = Check.told("o10 9;o20 12;o8 0;d9 0 30 0 20;d0 9 99 2 30;d7 2 60 0 40;d1 1 1 50 60;d2 2 2 0 2;");
        x.follows(0);
        x.minutes(2);
        x.puts(1, 0);
        x.keep(0);
        x.minutes(1);
        x.shuts(2, 1);
        x.shuts(1, 1);
        x.shuts(1, 0);
        x.minutes(1);
        x.led(2, 1);
        x.led(3, 0);
        x.mark(4, 2);
        Check.type(x, "o3 3;");
        return x;
    }

    /** As busy as that, and LED is full. */
    private static OvenNoses ledFull() {
        OvenNoses x = busy();
        for (int i = 0; i < 4; i++) {
            x.led(2, 0);
        }
        return x;
    }

    private static OvenNoses textFull() {
        OvenNoses x = Check.told("o10 9;d9 0 30 0 20;");
        x.follows(0);
        x.minutes(1);
        Check.type(x, " ".repeat(175) + "o4 4;");
        return x;
    }

    private static OvenNoses atTheLast() {
        OvenNoses x = Check.told("o10 9;d9 0 30 0 20;d9 9 9 9 99;");
        for (int i = 0; i < 16; i++) {
            x.minutes(60);
        }
        x.minutes(39);
        return x;
    }

    private static OvenNoses imageOneAlone() {
        OvenNoses x = Check.told("o10 9;d9 0 30 0 20;");
        x.follows(0);
        x.keep(1);
        x.minutes(1);
        return x;
    }

    private static void badCalls() {
        Supplier<OvenNoses> busy = RefusedTests::busy;
        refused("type -1", busy, BAD, x -> x.type(-1));
        refused("type 256", busy, BAD, x -> x.type(256));
        for (int o : new int[] {-1, 3, 5}) {
            refused("oven", busy, NO, x -> x.oven(o, 0));
            refused("smell, oven", busy, NO, x -> x.smell(o, 2));
            refused("puts, oven", busy, BAD, x -> x.puts(2, o));
            refused("shuts, oven", busy, BAD, x -> x.shuts(o, 1));
            refused("shuts, oven, opened", busy, BAD, x -> x.shuts(o, 0));
            refused("moved", busy, BAD, x -> x.moved(o));
            refused("order, oven", busy, BAD, x -> x.order(o, 99, -1));
            refused("odds, oven", busy, BAD, x -> x.odds(2, o, 5, 0));
            refused("led, oven", busy, BAD, x -> x.led(2, o));
        }
        for (int d : new int[] {-1, 5, 6}) {
            refused("dough", busy, BAD, x -> x.dough(d, 0));
            refused("smell, dough", busy, NO, x -> x.smell(0, d));
            refused("follows", busy, BAD, x -> x.follows(d));
            refused("puts, dough", busy, BAD, x -> x.puts(d, 0));
            refused("when", busy, BAD, x -> x.when(d));
            refused("fire, dough", busy, BAD, x -> x.fire(d, 5));
            refused("odds, dough", busy, BAD, x -> x.odds(d, 0, 5, 0));
            refused("led, dough", busy, BAD, x -> x.led(d, 0));
            refused("mark, dough", busy, NO, x -> x.mark(5, d));
        }
    }

    private static void badCallsOfWhat() {
        Supplier<OvenNoses> busy = RefusedTests::busy;
        refused("minutes 0", busy, BAD, x -> x.minutes(0));
        refused("minutes 61", busy, BAD, x -> x.minutes(61));
        refused("shuts, is 2", busy, BAD, x -> x.shuts(0, 2));
        refused("shuts, is -1", busy, BAD, x -> x.shuts(0, -1));
        refused("order, t -1", busy, BAD, x -> x.order(0, -1, -1));
        refused("order, t 1000", busy, BAD, x -> x.order(0, 1000, -1));
        refused("order, i -3", busy, BAD, x -> x.order(0, 99, -3));
        refused("order, i 6", busy, BAD, x -> x.order(0, 99, 6));
        refused("fire, n 0", busy, BAD, x -> x.fire(2, 0));
        refused("fire, n 100", busy, BAD, x -> x.fire(2, 100));
        refused("odds, x -1", busy, BAD, x -> x.odds(2, 0, -1, 0));
        refused("odds, x 11", busy, BAD, x -> x.odds(2, 0, 11, 0));
        refused("odds, what -1", busy, BAD, x -> x.odds(2, 0, 5, -1));
        refused("odds, what 2", busy, BAD, x -> x.odds(2, 0, 5, 2));
        refused("oven, what -1", busy, NO, x -> x.oven(0, -1));
        refused("oven, what 5", busy, NO, x -> x.oven(0, 5));
        refused("dough, what -1", busy, BAD, x -> x.dough(0, -1));
        refused("dough, what 8", busy, BAD, x -> x.dough(0, 8));
        refused("now -1", busy, BAD, x -> x.now(-1));
        refused("now 5", busy, BAD, x -> x.now(5));
        refused("count -1", busy, BAD, x -> x.count(-1));
        refused("count 5", busy, BAD, x -> x.count(5));
        refused("mark, kind -1", busy, NO, x -> x.mark(-1, 2));
        refused("mark, kind 6", busy, NO, x -> x.mark(6, 2));
        refused("keep -1", busy, BAD, x -> x.keep(-1));
        refused("keep 2", busy, BAD, x -> x.keep(2));
        refused("back -1", busy, BAD, x -> x.back(-1));
        refused("back 2", busy, BAD, x -> x.back(2));
    }

    private static void stateCalls() {
        Supplier<OvenNoses> busy = RefusedTests::busy;
        refused("follows, DONE", busy, STATE, x -> x.follows(0));
        refused("follows, IN", busy, STATE, x -> x.follows(1));
        refused("follows, not RISEN", busy, STATE, x -> x.follows(3));
        refused("follows, GONE SOUR", busy, STATE, x -> x.follows(4));
        refused("puts, DONE", busy, STATE, x -> x.puts(0, 0));
        refused("puts, IN", busy, STATE, x -> x.puts(1, 1));
        refused("puts, IN there", busy, STATE, x -> x.puts(1, 0));
        refused("puts, not RISEN", busy, STATE, x -> x.puts(3, 0));
        refused("puts, GONE SOUR", busy, STATE, x -> x.puts(4, 0));
        refused("puts, SHUT", busy, STATE, x -> x.puts(2, 2));
        refused("shuts, is SHUT", busy, STATE, x -> x.shuts(2, 1));
        refused("shuts, is open", busy, STATE, x -> x.shuts(1, 0));
        refused("when, DONE", busy, STATE, x -> x.when(0));
        refused("when, OUT", busy, STATE, x -> x.when(2));
        refused("moved, SHUT", busy, STATE, x -> x.moved(2));
        refused("odds, DONE", busy, STATE, x -> x.odds(0, 0, 5, 0));
        refused("odds, IN", busy, STATE, x -> x.odds(1, 0, 5, 1));
        refused("led, DONE", busy, STATE, x -> x.led(0, 0));
        refused("led, IN", busy, STATE, x -> x.led(1, 0));
        refused("back, none was kept", busy, STATE, x -> x.back(1));
        refused("follows, no NOSE", () -> {
            OvenNoses x = Check.told("o1 1;d1 1 1 0 9;");
            x.shuts(0, 1);
            return x;
        }, STATE, x -> x.follows(0));
    }

    private static void fullCalls() {
        refused("type, full", RefusedTests::textFull, FULL, x -> x.type('x'));
        refused("type, full, blank", RefusedTests::textFull, FULL, x -> x.type(' '));
        refused("led, full", RefusedTests::ledFull, FULL, x -> x.led(2, 1));
        refused("led, full, as one that was", RefusedTests::ledFull, FULL, x -> x.led(2, 0));
        refused("led, full, not RISEN", RefusedTests::ledFull, FULL, x -> x.led(3, 2));
    }

    private static void badAheadOfState() {
        Supplier<OvenNoses> busy = RefusedTests::busy;
        refused("puts, DONE, no oven", busy, BAD, x -> x.puts(0, 3));
        refused("puts, IN, no oven", busy, BAD, x -> x.puts(1, -1));
        refused("puts, not RISEN, no oven", busy, BAD, x -> x.puts(3, 3));
        refused("puts, GONE SOUR, no oven", busy, BAD, x -> x.puts(4, 3));
        refused("puts, SHUT, no dough", busy, BAD, x -> x.puts(5, 2));
        refused("shuts, SHUT, is 2", busy, BAD, x -> x.shuts(2, 2));
        refused("odds, IN, no oven", busy, BAD, x -> x.odds(1, 3, 5, 0));
        refused("odds, IN, x 11", busy, BAD, x -> x.odds(1, 0, 11, 0));
        refused("odds, DONE, x -1", busy, BAD, x -> x.odds(0, 0, -1, 0));
        refused("odds, DONE, what 2", busy, BAD, x -> x.odds(0, 0, 5, 2));
        refused("led, IN, no oven", busy, BAD, x -> x.led(1, 3));
        refused("led, DONE, no oven", busy, BAD, x -> x.led(0, -1));
    }

    private static void badAheadOfFull() {
        refused("type -1, full", RefusedTests::textFull, BAD, x -> x.type(-1));
        refused("type 256, full", RefusedTests::textFull, BAD, x -> x.type(256));
        refused("led, no dough, full", RefusedTests::ledFull, BAD, x -> x.led(5, 0));
        refused("led, no oven, full", RefusedTests::ledFull, BAD, x -> x.led(2, 3));
        refused("led, no oven, IN, full", RefusedTests::ledFull, BAD, x -> x.led(1, 3));
    }

    private static void stateAheadOfFull() {
        refused("led, IN, full", RefusedTests::ledFull, STATE, x -> x.led(1, 0));
        refused("led, DONE, full", RefusedTests::ledFull, STATE, x -> x.led(0, 0));
    }

    private static void atTheLastMinute() {
        Supplier<OvenNoses> last = RefusedTests::atTheLast;
        refused("minutes 1 at 999", last, STATE, x -> x.minutes(1));
        refused("minutes 60 at 999", last, STATE, x -> x.minutes(60));
        refused("minutes 0 at 999", last, BAD, x -> x.minutes(0));
        refused("minutes 61 at 999", last, BAD, x -> x.minutes(61));
        refused("minutes of the greatest number at 999", last, BAD, x -> x.minutes(Integer.MAX_VALUE));
        refused("minutes of the least number at 999", last, BAD, x -> x.minutes(Integer.MIN_VALUE));
        refused("follows at 999", last, STATE, x -> x.follows(1));
    }

    private static void withNothingTold() {
        Supplier<OvenNoses> none = OvenNoses::new;
        refused("undo of nothing", none, STATE, x -> x.undo());
        refused("back of nothing, 0", none, STATE, x -> x.back(0));
        refused("back of nothing, 1", none, STATE, x -> x.back(1));
        refused("shuts of nothing", none, BAD, x -> x.shuts(0, 1));
        refused("follows of nothing", none, BAD, x -> x.follows(0));
        refused("puts of nothing", none, BAD, x -> x.puts(0, 0));
        refused("led of nothing", none, BAD, x -> x.led(0, 0));
        refused("mark of nothing", none, NO, x -> x.mark(0, 0));
        refused("undo of all that was told", () -> Check.told("o1 1;d1 1 1 0 9;"), STATE, x -> x.undo());
    }

    private static void withoutImages() {
        refused("back 0, 1 was kept", RefusedTests::imageOneAlone, STATE, x -> x.back(0));
        refused("back 2, 1 was kept", RefusedTests::imageOneAlone, BAD, x -> x.back(2));
        refused("back 33, 1 was kept", RefusedTests::imageOneAlone, BAD, x -> x.back(33));
        refused("keep 33, 1 was kept", RefusedTests::imageOneAlone, BAD, x -> x.keep(33));
    }

    private static void faults() {
        for (String text : new String[] {"o", "x", ";", "o1 1;d", "o41 1;", "d1 1 1 1 1;o1 1;o1 19;", "  ?"}) {
            Supplier<OvenNoses> made = () -> {
                OvenNoses x = imageOneAlone();
                x.led(0, 0);
                Check.type(x, text);
                return x;
            };
            refused("quarter of '" + text + "'", made, made.get().quarter(), x -> x.quarter());
            Check.holds("quarter of '" + text + "' is a fault", made.get().quarter() <= -10);
        }
    }
}
