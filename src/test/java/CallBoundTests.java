/**
 * Promises 1 to 26: every argument at its bounds, just outside them and far away, and each
 * call where something is empty, full or at its end. Each method tests one promise.
 */
public final class CallBoundTests {
    private static final int BAD = -1, STATE = -2, FULL = -3, NONE = -9, DONE = -5, NO = -1000000;

    /** Far away, and where shifts, sums or products would wrap around to something that is there. */
    private static final int[] FAR = {
        Integer.MIN_VALUE, Integer.MIN_VALUE + 1, -1073741824, -65536, -257, -256, -64, -32, -31, -10, -9, -5, -3,
        31 * 1000 + 1, 32 * 1000, 65536, 65537, 1 << 29, 1 << 30, (1 << 30) + 1, Integer.MAX_VALUE - 1, Integer.MAX_VALUE,
    };

    /** Two ovens, three doughs: the first may go in, the second not yet, the third lies there for long. */
    private static final String TWO_THREE = "o10 9;o20 5;d9 0 30 0 20;d0 9 45 2 30;d7 2 60 0 99;";

    private interface Call {
        long ask(OvenNoses x, int n);
    }

    public static void main(String[] args) {
        newObject();
        type();
        clear();
        quarter();
        oven();
        dough();
        smell();
        follows();
        puts();
        minutes();
        shuts();
        undo();
        now();
        when();
        moved();
        order();
        fire();
        odds();
        led();
        forget();
        vanilla();
        mark();
        keep();
        back();
        count();
        trace();
        the512thCall();
        Check.end();
    }

    private static void due(String what, long got, long want) {
        Check.due(what, got, want);
    }

    /** The argument may be least .. most; all else is refused with this answer, in any number. */
    private static void within(String what, Call call, int least, int most, int refusal) {
        OvenNoses x = Check.told(TWO_THREE);
        due(what + " of " + (least - 1), call.ask(x, least - 1), refusal);
        due(what + " of " + (most + 1), call.ask(x, most + 1), refusal);
        due(what + " of " + (most + 32), call.ask(x, most + 32), refusal);
        due(what + " of " + (least - 32), call.ask(x, least - 32), refusal);
        for (int far : FAR) {
            if (far < least || far > most) {
                due(what + " of " + far, call.ask(x, far), refusal);
            }
        }
        for (int n : new int[] {least, Math.min(least + 1, most), Math.max(most - 1, least), most}) {
            Check.holds(what + " of " + n + " is not refused", call.ask(Check.told(TWO_THREE), n) != refusal);
        }
    }

    // Promise 1: "As told; no OVENS, no DOUGHS."
    private static void newObject() {
        OvenNoses x = new OvenNoses();
        due("1 OVENS", x.count(0), 0);
        due("1 DOUGHS", x.count(1), 0);
        due("1 LED", x.count(2), 0);
        due("1 UNDONE", x.count(3), 0);
        due("1 bytes", x.count(4), 0);
        due("1 oven 0", x.oven(0, 0), NO);
        due("1 dough 0", x.dough(0, 0), BAD);
        due("1 smell", x.smell(0, 0), NO);
        due("1 follows", x.follows(0), BAD);
        due("1 puts", x.puts(0, 0), BAD);
        due("1 shuts", x.shuts(0, 1), BAD);
        due("1 when", x.when(0), BAD);
        due("1 moved", x.moved(0), BAD);
        due("1 order", x.order(0, 0, -1), BAD);
        due("1 fire", x.fire(0, 1), BAD);
        due("1 odds", x.odds(0, 0, 0, 0), BAD);
        due("1 led", x.led(0, 0), BAD);
        due("1 mark", x.mark(0, 0), NO);
        due("1 back 0", x.back(0), STATE);
        due("1 back 1", x.back(1), STATE);
        due("1 undo", x.undo(), STATE);
        due("1 vanilla", x.vanilla(), 32);
        due("1 trace", x.trace(), 0);
        due("1 MINUTE", x.now(0), 0);
        OvenNoses other = Check.told("o1 1;");
        other.minutes(1);
        due("1 objects are apart", new OvenNoses().now(0), 0);
        due("1 objects are apart, ovens", new OvenNoses().count(0), 0);
    }

    // Promise 2: "A byte (0 .. 255) comes to THE TEXT: how many it has. BAD; FULL."
    private static void type() {
        within("2 type", (x, n) -> x.type(n), 0, 255, BAD);
        OvenNoses x = new OvenNoses();
        for (int n = 1; n <= 179; n++) {
            due("2 the " + n + "th", x.type(n), n);
        }
        due("2 the 180th", x.type(255), 180);
        due("2 the 181st", x.type(0), FULL);
        due("2 again", x.type(255), FULL);
        due("2 BAD when full, below", x.type(-1), BAD);
        due("2 BAD when full, above", x.type(256), BAD);
        due("2 bytes", x.count(4), 180);
        due("2 emptied", x.clear(), 180);
        due("2 the first again", x.type(0), 1);
    }

    // Promise 3: "THE TEXT is empty: how many bytes it had."
    private static void clear() {
        for (int n : new int[] {0, 1, 2, 179, 180}) {
            OvenNoses x = new OvenNoses();
            Check.type(x, " ".repeat(n));
            due("3 had", x.clear(), n);
            due("3 empty", x.count(4), 0);
            due("3 empty already", x.clear(), 0);
            due("3 nothing of it is left", x.type('o'), 1);
        }
        OvenNoses x = Check.told(TWO_THREE);
        Check.type(x, "o");
        x.clear();
        due("3 the quarter stays", x.count(1), 3);
    }

    // Promise 4: see TextBoundTests; here: "how many ITEMS. -10 less FAULT".
    private static void quarter() {
        for (int items = 0; items <= 11; items++) {
            OvenNoses x = new OvenNoses();
            Check.type(x, "o1 1;".repeat(Math.min(items, 5)) + "d1 1 1 0 0;".repeat(Math.max(items - 5, 0)));
            due("4 items", x.quarter(), items);
        }
        OvenNoses x = new OvenNoses();
        x.type(';');
        due("4 least FAULT", x.quarter(), -10);
        x.clear();
        Check.type(x, " ".repeat(179) + "d");
        due("4 greatest FAULT", x.quarter(), -190);
    }

    // Promise 5: "0 HEAT .. 4 whether SHUT (1, 0). NO: BAD."
    private static void oven() {
        within("5 oven", (x, n) -> x.oven(n, 0), 0, 1, NO);
        within("5 what", (x, n) -> x.oven(0, n), 0, 4, NO);
        OvenNoses x = Check.told("o0 0;o40 18;" + "d1 1 99 0 9;".repeat(6));
        due("5 least HEAT", x.oven(0, 0), 0);
        due("5 greatest HEAT", x.oven(1, 0), 40);
        due("5 least DRAW", x.oven(0, 1), -9);
        due("5 greatest DRAW", x.oven(1, 1), 9);
        for (int d = 0; d < 6; d++) {
            due("5 IN, bits", x.oven(1, 2), (1 << d) - 1);
            due("5 HOT", x.oven(1, 3), 40 - 4 * d);
            x.puts(d, 1);
        }
        due("5 all IN", x.oven(1, 2), 63);
        due("5 HOT of six", x.oven(1, 3), 16);
        due("5 nobody IN the other", x.oven(0, 2), 0);
        due("5 open", x.oven(1, 4), 0);
        x.shuts(1, 1);
        due("5 SHUT", x.oven(1, 4), 1);
        due("5 the other is open", x.oven(0, 4), 0);
        x.shuts(1, 0);
        due("5 open again", x.oven(1, 4), 0);
        // An answer below 0 may be right here: it is not to be taken for a refusal.
        OvenNoses minus = Check.told("o0 8;o0 7;o0 6;o0 0;");
        due("5 DRAW -1", minus.oven(0, 1), -1);
        due("5 DRAW -2", minus.oven(1, 1), -2);
        due("5 DRAW -3", minus.oven(2, 1), -3);
        due("5 DRAW -9", minus.oven(3, 1), -9);
    }

    // Promise 6: "0 SWEET .. 7 NOSE (NONE; not OUT: NONE). BAD."
    private static void dough() {
        within("6 dough", (x, n) -> x.dough(n, 0), 0, 2, BAD);
        within("6 what", (x, n) -> x.dough(0, n), 0, 7, BAD);
        OvenNoses x = Check.told(TWO_THREE);
        due("6 where: OUT", x.dough(0, 5), NONE);
        due("6 NOSE, OUT", x.dough(0, 7), 0);
        due("6 NOSE, not RISEN", x.dough(1, 7), 0);
        x.puts(0, 1);
        due("6 where: IN", x.dough(0, 5), 1);
        due("6 NOSE, IN", x.dough(0, 7), NONE);
        due("6 BAKED at first", x.dough(0, 6), 0);
        x.minutes(1);
        due("6 BAKED", x.dough(0, 6), 18);
        x.minutes(1);
        due("6 where: DONE", x.dough(0, 5), DONE);
        due("6 NOSE, DONE", x.dough(0, 7), NONE);
        due("6 BAKED, DONE", x.dough(0, 6), 36);
        x.minutes(60);
        due("6 BAKED stays", x.dough(0, 6), 36);
        due("6 NOSE, GONE SOUR", x.dough(1, 7), 0);
        x.shuts(0, 1);
        due("6 NOSE, one SHUT", x.dough(1, 7), 1);
        x.shuts(1, 1);
        due("6 NOSE, all SHUT", x.dough(1, 7), NONE);
        OvenNoses none = Check.told("d1 1 1 0 0;");
        due("6 NOSE, no oven", none.dough(0, 7), NONE);
    }

    // Promise 7: "SMELL. NO: BAD."
    private static void smell() {
        within("7 oven", (x, n) -> x.smell(n, 0), 0, 1, NO);
        within("7 dough", (x, n) -> x.smell(0, n), 0, 2, NO);
        due("7 no doughs", Check.told("o1 1;").smell(0, 0), NO);
        due("7 no ovens", Check.told("d1 1 1 0 0;").smell(0, 0), NO);
        OvenNoses x = Check.told("o1 8;o1 0;d9 0 9 0 9;d9 0 9 0 9;");
        due("7 -1 is no refusal", x.smell(0, 0), -1);
        due("7 -9 is no refusal", x.smell(1, 0), -9);
        x.puts(1, 0);
        due("7 of one IN, for another", x.smell(0, 0), 80);
        due("7 of one IN, for itself", x.smell(0, 1), 80);
        due("7 not of another oven", x.smell(1, 0), -9);
        x.minutes(60);
        due("7 HOT by 0, IN for ever", x.smell(0, 0), 80);
    }

    // Promise 8: "PUT where NOSE leads: which OVEN. BAD; STATE: not OUT, not RISEN, GONE SOUR, no NOSE."
    private static void follows() {
        within("8 dough", (x, n) -> x.follows(n), 0, 2, BAD);
        OvenNoses x = Check.told("o10 9;o10 9;o10 9;o10 9;o10 10;d9 9 9 0 3;d1 1 9 1 9;d1 1 9 0 1;d1 1 9 0 9;");
        due("8 which: the last", x.follows(0), 4);
        due("8 not OUT: IN", x.follows(0), STATE);
        due("8 not RISEN", x.follows(1), STATE);
        x.minutes(1);
        due("8 not OUT: DONE", x.follows(0), STATE);
        due("8 RISEN", x.follows(1), 4);
        x.minutes(1);
        due("8 GONE SOUR", x.follows(2), STATE);
        x.shuts(4, 1);
        due("8 which: the first", x.follows(3), 0);
        x.undo();
        for (int o = 0; o < 4; o++) {
            x.shuts(o, 1);
        }
        due("8 no NOSE", x.follows(3), STATE);
        due("8 refused is no step", x.count(3), 9);
        x.shuts(2, 0);
        due("8 the only one", x.follows(3), 2);
        OvenNoses none = Check.told("d1 1 1 0 0;");
        due("8 no oven at all", none.follows(0), STATE);
    }

    // Promise 9: "PUT in an OVEN: how many are IN it. BAD; STATE: not OUT, .., it is SHUT."
    private static void puts() {
        within("9 dough", (x, n) -> x.puts(n, 0), 0, 2, BAD);
        within("9 oven", (x, n) -> x.puts(0, n), 0, 1, BAD);
        within("9 oven, of one not RISEN", (x, n) -> x.puts(1, n), 0, 1, BAD);
        due("9 no ovens", Check.told("d1 1 1 0 0;").puts(0, 0), BAD);
        due("9 no doughs", Check.told("o1 1;").puts(0, 0), BAD);
        OvenNoses x = Check.told("o1 9;o1 0;" + "d9 0 9 0 9;".repeat(6));
        for (int d = 0; d < 5; d++) {
            due("9 IN it", x.puts(d, 1), d + 1);
        }
        due("9 IN the other", x.puts(5, 0), 1);
        due("9 IN already", x.puts(5, 1), STATE);
        x.undo();
        due("9 the sixth", x.puts(5, 1), 6);
        x.undo();
        x.shuts(1, 1);
        due("9 it is SHUT", x.puts(5, 1), STATE);
        due("9 the other is not", x.puts(5, 0), 1);
        OvenNoses times = Check.told("o40 9;d1 1 1 1 2;d1 1 1 0 0;");
        due("9 not RISEN", times.puts(0, 0), STATE);
        times.minutes(1);
        due("9 GONE SOUR", times.puts(1, 0), STATE);
        due("9 RISEN", times.puts(0, 0), 1);
        times.minutes(1);
        due("9 DONE", times.puts(0, 0), STATE);
    }

    // Promise 10: "MINUTES go by (1 .. 60): how many are DONE in them. BAD; STATE: beyond MINUTE 999."
    private static void minutes() {
        within("10 minutes", (x, n) -> x.minutes(n), 1, 60, BAD);
        OvenNoses x = Check.told("o40 9;" + "d1 1 1 0 9;".repeat(6));
        due("10 nobody IN", x.minutes(1), 0);
        for (int d = 0; d < 6; d++) {
            x.puts(d, 0);
        }
        due("10 all six", x.minutes(1), 6);
        due("10 none of those that are DONE", x.minutes(60), 0);
        OvenNoses row = Check.told("o40 9;d1 1 36 0 99;d1 1 99 0 99;");
        row.puts(1, 0);
        due("10 in 2 none", row.minutes(2), 0);
        row.puts(0, 0);
        due("10 in 1 one", row.minutes(1), 1);
        due("10 in 1 the other", row.minutes(1), 1);
        OvenNoses late = Check.told(TWO_THREE);
        for (int i = 0; i < 16; i++) {
            late.minutes(60);
        }
        for (int n = 40; n <= 60; n++) {
            due("10 beyond 999 by " + n, late.minutes(n), STATE);
        }
        due("10 61, beyond it", late.minutes(61), BAD);
        due("10 0, at 960", late.minutes(0), BAD);
        due("10 refused is no step, no MINUTE", late.now(0), 960);
        due("10 39 more", late.minutes(39), 0);
        due("10 at 999", late.minutes(1), STATE);
        due("10 at 999, 60", late.minutes(60), STATE);
        due("10 at 999, the greatest number", late.minutes(Integer.MAX_VALUE), BAD);
    }

    // Promise 11: "SHUT (1), opened (0): how many are SHUT. BAD; STATE: it is so."
    private static void shuts() {
        within("11 oven", (x, n) -> x.shuts(n, 1), 0, 1, BAD);
        within("11 is", (x, n) -> x.shuts(0, n), 0, 1, BAD);
        OvenNoses x = Check.told("o1 1;".repeat(5));
        for (int o = 0; o < 5; o++) {
            due("11 is open", x.shuts(o, 0), STATE);
            due("11 SHUT", x.shuts(o, 1), o + 1);
            due("11 is SHUT", x.shuts(o, 1), STATE);
            due("11 bits", x.now(4), (2 << o) - 1);
        }
        due("11 neither, of one SHUT", x.shuts(4, 2), BAD);
        due("11 below, of one SHUT", x.shuts(4, -1), BAD);
        for (int o = 0; o < 5; o++) {
            due("11 opened", x.shuts(o, 0), 4 - o);
            due("11 is open again", x.shuts(o, 0), STATE);
        }
        due("11 steps", x.count(3), 10);
    }

    // Promise 12: "UNDONE: how many more may be. STATE: none."
    private static void undo() {
        OvenNoses x = Check.told(TWO_THREE);
        due("12 none", x.undo(), STATE);
        x.minutes(1);
        due("12 one", x.undo(), 0);
        due("12 none again", x.undo(), STATE);
        for (int n = 1; n <= 9; n++) {
            x.minutes(1);
        }
        due("12 of nine", x.undo(), 8);
        x.minutes(1);
        x.minutes(1);
        due("12 of ten", x.undo(), 9);
        x.minutes(1);
        x.minutes(1);
        due("12 of eleven", x.undo(), 9);
        for (int left = 8; left >= 0; left--) {
            due("12 down", x.undo(), left);
        }
        due("12 at the end", x.undo(), STATE);
        due("12 the oldest is lost", x.now(0), 1);
    }

    // Promise 13: "0 THE MINUTE .. 4 what is SHUT (bits). BAD."
    private static void now() {
        within("13 what", (x, n) -> x.now(n), 0, 4, BAD);
        OvenNoses x = Check.told("o40 9;".repeat(5) + "d1 1 1 0 1;".repeat(6));
        due("13 OUT, all", x.now(1), 63);
        due("13 DONE, none", x.now(2), 0);
        due("13 SHUT, none", x.now(4), 0);
        x.minutes(1);
        due("13 at LATE", x.now(3), 0);
        x.keep(0);
        x.minutes(1);
        due("13 GONE SOUR, all", x.now(3), 63);
        due("13 OUT, all still", x.now(1), 63);
        x.back(0);
        for (int d = 0; d < 6; d++) {
            x.puts(d, 0);
        }
        due("13 OUT, none", x.now(1), 0);
        x.minutes(1);
        due("13 DONE, all", x.now(2), 63);
        due("13 DONE is not GONE SOUR", x.now(3), 0);
        for (int o = 0; o < 5; o++) {
            x.shuts(o, 1);
        }
        due("13 SHUT, all", x.now(4), 31);
        OvenNoses in = Check.told("o1 9;d1 1 1 0 0;");
        in.puts(0, 0);
        in.minutes(2);
        due("13 IN is not GONE SOUR", in.now(3), 0);
    }

    // Promise 14: "WHEN; NONE. BAD; STATE: it is not IN."
    private static void when() {
        within("14 dough", (x, n) -> x.when(n), 0, 2, BAD);
        OvenNoses x = Check.told("o40 9;o1 9;d1 1 36 0 9;d1 1 37 0 9;d1 1 1 0 9;");
        due("14 OUT", x.when(0), STATE);
        x.puts(0, 0);
        due("14 just NEED", x.when(0), 1);
        x.undo();
        x.puts(1, 0);
        due("14 one below NEED", x.when(1), 2);
        x.puts(2, 1);
        due("14 NONE", x.when(2), NONE);
        x.minutes(2);
        due("14 DONE", x.when(1), STATE);
    }

    // Promise 15: "MOVED, as bits. BAD; STATE: it is SHUT."
    private static void moved() {
        within("15 oven", (x, n) -> x.moved(n), 0, 1, BAD);
        OvenNoses x = Check.told("o1 9;o1 9;" + "d1 1 1 0 9;".repeat(6));
        due("15 all", x.moved(0), 63);
        due("15 none", x.moved(1), 0);
        x.shuts(0, 1);
        due("15 it is SHUT", x.moved(0), STATE);
        due("15 or nowhere", x.moved(1), 63);
        for (int d = 0; d < 6; d++) {
            x.puts(d, 1);
        }
        due("15 nobody OUT", x.moved(1), 0);
    }

    // Promise 16: "how many (i = -1), when the last is DONE (-2), the i-th (NONE: not so many). BAD (i -2 .. 5)."
    private static void order() {
        within("16 oven", (x, n) -> x.order(n, 999, -1), 0, 1, BAD);
        within("16 t", (x, n) -> x.order(0, n, -1), 0, 999, BAD);
        within("16 i", (x, n) -> x.order(0, 999, n), -2, 5, BAD);
        OvenNoses x = Check.told("o10 9;" + "d1 1 9 0 99;".repeat(6));
        due("16 i -2", x.order(0, 999, -2), 6);
        due("16 i -1", x.order(0, 999, -1), 6);
        due("16 i 0", x.order(0, 999, 0), 0);
        due("16 i 5", x.order(0, 999, 5), 5);
        due("16 i 5, by 5", x.order(0, 5, 5), NONE);
        due("16 i 4, by 5", x.order(0, 5, 4), 4);
        due("16 i 0, by 0", x.order(0, 0, 0), NONE);
        due("16 no doughs", Check.told("o1 1;").order(0, 0, 5), NONE);
        due("16 no ovens", Check.told("d1 1 1 0 0;").order(0, 0, -1), BAD);
    }

    // Promise 17: "FIRE. BAD."
    private static void fire() {
        within("17 dough", (x, n) -> x.fire(n, 1), 0, 2, BAD);
        within("17 n", (x, n) -> x.fire(0, n), 1, 99, BAD);
        OvenNoses x = Check.told("d1 1 99 0 0;");
        due("17 without ovens", x.fire(0, 99), 2);
        due("17 n 1", x.fire(0, 1), 110);
    }

    // Promise 18: "upper (what = 0), lower number (1), in least terms. BAD; STATE: the DOUGH is not OUT."
    private static void odds() {
        within("18 dough", (x, n) -> x.odds(n, 0, 5, 0), 0, 2, BAD);
        within("18 oven", (x, n) -> x.odds(0, n, 5, 0), 0, 1, BAD);
        within("18 x", (x, n) -> x.odds(0, 0, n, 0), 0, 10, BAD);
        within("18 what", (x, n) -> x.odds(0, 0, 5, n), 0, 1, BAD);
        OvenNoses x = Check.told("o40 9;o1 9;d1 1 1 0 0;d1 1 1 60 60;");
        due("18 half", x.odds(0, 0, 5, 0), 1);
        due("18 of two", x.odds(0, 0, 5, 1), 2);
        due("18 not RISEN is OUT", x.odds(1, 0, 5, 1), 2);
        x.puts(0, 0);
        due("18 IN", x.odds(0, 0, 5, 0), STATE);
        due("18 IN, lower", x.odds(0, 0, 5, 1), STATE);
        x.minutes(1);
        due("18 DONE", x.odds(0, 0, 5, 0), STATE);
        due("18 DONE, x 11", x.odds(0, 0, 11, 0), BAD);
        due("18 DONE, no oven", x.odds(0, 2, 5, 0), BAD);
        for (int i = 0; i < 2; i++) {
            x.minutes(60);
        }
        due("18 GONE SOUR is OUT", x.odds(1, 0, 5, 1), 2);
    }

    // Promise 19: "LED: how much there is. BAD; STATE: the DOUGH is not OUT; FULL."
    private static void led() {
        within("19 dough", (x, n) -> x.led(n, 0), 0, 2, BAD);
        within("19 oven", (x, n) -> x.led(0, n), 0, 1, BAD);
        OvenNoses x = Check.told("o40 9;o1 9;d1 1 1 0 9;d1 1 1 60 60;d1 1 1 0 0;d1 1 1 0 9;");
        x.puts(0, 0);
        due("19 IN", x.led(0, 0), STATE);
        due("19 IN, no oven", x.led(0, 2), BAD);
        due("19 not RISEN", x.led(1, 0), 1);
        x.minutes(1);
        due("19 DONE", x.led(0, 0), STATE);
        due("19 GONE SOUR", x.led(2, 1), 2);
        x.shuts(1, 1);
        due("19 to one that is SHUT", x.led(2, 1), 3);
        due("19 the fourth", x.led(1, 0), 4);
        due("19 the fifth", x.led(1, 0), 5);
        due("19 the sixth", x.led(1, 1), 6);
        due("19 the seventh", x.led(1, 1), FULL);
        due("19 DONE ahead of FULL", x.led(0, 1), STATE);
        due("19 no oven ahead of FULL", x.led(1, 2), BAD);
        due("19 no dough ahead of FULL", x.led(4, 0), BAD);
        due("19 six", x.count(2), 6);
        due("19 no step", x.count(3), 3);
    }

    // Promise 20: "Nothing was LED: how much was."
    private static void forget() {
        for (int n = 0; n <= 6; n++) {
            OvenNoses x = Check.told(TWO_THREE);
            for (int i = 0; i < n; i++) {
                x.led(0, 1);
            }
            due("20 how much was", x.forget(), n);
            due("20 nothing is", x.count(2), 0);
            due("20 nothing was", x.forget(), 0);
            due("20 vanilla anywhere", x.vanilla(), 35);
        }
    }

    // Promise 21: "VANILLA, as bits. (0, if one that was LED is not OUT any more.)"
    private static void vanilla() {
        OvenNoses x = Check.told("o40 9;o40 9;d0 0 1 0 9;d0 0 99 0 9;");
        due("21 nothing LED", x.vanilla(), 35);
        x.led(0, 0);
        due("21 LED", x.vanilla(), 35);
        x.puts(1, 1);
        due("21 another is IN", x.vanilla(), 35);
        x.puts(0, 0);
        due("21 IN", x.vanilla(), 0);
        x.minutes(1);
        due("21 DONE", x.vanilla(), 0);
        x.undo();
        x.undo();
        due("21 OUT again", x.vanilla(), 35);
        x.minutes(60);
        due("21 GONE SOUR is OUT", x.vanilla(), 35);
        x.shuts(0, 1);
        due("21 its oven is SHUT", x.vanilla(), 0);
        x.forget();
        due("21 nothing LED again", x.vanilla(), 35);
        OvenNoses all = Check.told("o1 9;d0 0 1 0 9;d0 0 1 0 9;d0 0 99 0 9;");
        for (int d = 0; d < 3; d++) {
            all.led(d, 0);
            all.led(d, 0);
        }
        due("21 six LED", all.vanilla(), 33);
        all.puts(2, 0);
        due("21 the last is not OUT", all.vanilla(), 0);
    }

    // Promise 22: "MARK. NO: BAD."
    private static void mark() {
        within("22 kind", (x, n) -> x.mark(n, 0), 0, 5, NO);
        within("22 dough", (x, n) -> x.mark(0, n), 0, 2, NO);
        OvenNoses x = Check.told("d0 1 1 0 0;d0 9 1 0 0;");
        due("22 -1 is no refusal", x.mark(2, 0), -1);
        due("22 -9 is no refusal", x.mark(2, 1), -9);
        due("22 its number, 0", x.mark(4, 0), -1);
        due("22 its number, 1", x.mark(4, 1), -8);
    }

    // Promise 23: "An IMAGE is kept: THE MINUTE. BAD."
    private static void keep() {
        within("23 image", (x, n) -> x.keep(n), 0, 1, BAD);
        OvenNoses x = Check.told(TWO_THREE);
        due("23 at 0", x.keep(0), 0);
        for (int i = 0; i < 16; i++) {
            x.minutes(60);
        }
        x.minutes(39);
        due("23 at 999", x.keep(0), 999);
        due("23 the newer", x.back(0), 999);
    }

    // Promise 24: "All of that becomes as an IMAGE has it: THE MINUTE. BAD; STATE: none was kept."
    private static void back() {
        within("24 image", (x, n) -> x.back(n), 0, 1, BAD);
        OvenNoses x = Check.told(TWO_THREE);
        due("24 none was kept, 0", x.back(0), STATE);
        due("24 none was kept, 1", x.back(1), STATE);
        x.minutes(3);
        x.keep(1);
        due("24 0 was not kept", x.back(0), STATE);
        x.minutes(60);
        due("24 back", x.back(1), 3);
        due("24 back once more", x.back(1), 3);
        due("24 no image 2", x.back(2), BAD);
        x.quarter();
        due("24 gone with another text", x.back(1), STATE);
        due("24 gone, 0 too", x.back(0), STATE);
    }

    // Promise 25: "0 OVENS, 1 DOUGHS, 2 LED, 3 how many may be UNDONE, 4 bytes of THE TEXT. BAD."
    private static void count() {
        within("25 what", (x, n) -> x.count(n), 0, 4, BAD);
        OvenNoses x = Check.told("o1 9;".repeat(5) + "d1 1 1 0 9;".repeat(6));
        due("25 OVENS", x.count(0), 5);
        due("25 DOUGHS", x.count(1), 6);
        for (int n = 0; n < 7; n++) {
            x.led(0, 0);
        }
        due("25 LED", x.count(2), 6);
        for (int n = 0; n < 11; n++) {
            x.minutes(1);
        }
        due("25 UNDONE", x.count(3), 10);
        for (int n = 0; n < 181; n++) {
            x.type(' ');
        }
        due("25 bytes", x.count(4), 180);
    }

    // Promise 26: "THE TRACE."
    private static void trace() {
        OvenNoses x = Check.told(TWO_THREE);
        due("26 at first", x.trace(), 0);
        x.mark(-1, 0);
        x.mark(6, 0);
        x.mark(0, -1);
        x.mark(5, 3);
        due("26 refused ones are not asked", x.trace(), 0);
        x.mark(5, 2);
        due("26 SNIFF and DOUGH", x.trace(), 100001);
        x.undo();
        x.keep(0);
        x.back(0);
        x.quarter();
        due("26 it goes on", x.trace(), 100001);
        OvenNoses most = Check.told("d9 9 9 0 9;");
        for (int i = 0; i < 498; i++) {
            most.mark(5, 0);
        }
        due("26 the most there can be", most.trace(), 498L * 100001);
    }

    // "An object is used for at most 512 calls after it has been made"
    private static void the512thCall() {
        OvenNoses x = Check.told("o10 9;d1 1 99 0 9;");
        // told() asked 18 times to type, once to read and once how many bytes there are.
        x.puts(0, 0);
        for (int i = 0; i < 122; i++) {
            due("512 minutes", x.minutes(1), 0);
            due("512 BAKED", x.dough(0, 6), 9);
            due("512 undo", x.undo(), 1);
            due("512 MINUTE", x.now(0), 0);
        }
        x.minutes(1);
        x.minutes(1);
        due("512 the last", x.when(0), 11);
    }
}
