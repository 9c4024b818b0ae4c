/**
 * 'Terms', parts 2 to 4: every bound of what is done and of what will be, at it, just
 * below and just above; each method tests one sentence, which stands above it.
 */
public final class TermBoundTests {
    private static final int BAD = -1, STATE = -2, FULL = -3, NONE = -9, DONE = -5;

    public static void main(String[] args) {
        minuteZeroTo999();
        outAndOpenAtFirst();
        whoIsInStaysIn();
        hot();
        smell();
        smellOfMany();
        noseToTheGreatest();
        noseOfLikeOnes();
        noNose();
        putWhenRisen();
        putTillLate();
        putOneMinuteAlone();
        bakedByZeroThen();
        doneByNeed();
        hotAtItsBegin();
        tenAreKnown();
        minutesTogether();
        undoneAllIsAsAhead();
        nothingIsChanged();
        whenWithin200();
        whenNobodyElseIsPut();
        movedElsewhereOrNowhere();
        orderByT();
        orderTillLate();
        orderFromRisen();
        orderOfMost();
        orderSoonestThenFirst();
        orderOfSix();
        orderOfNone();
        orderAlone();
        fireLeast();
        ledSixAtMost();
        vanillaNineMore();
        vanillaOvens();
        oddsByX();
        oddsOfShutOnes();
        oddsOfTheLeastSmell();
        kinds();
        imagesKeepNowAlone();
        imagesKeepWhatMayBeUndone();
        imagesBringAllBack();
        imagesAreTwo();
        Check.end();
    }

    private static void due(String what, long got, long want) {
        Check.due(what, got, want);
    }

    private static OvenNoses atMinute(String text, int minute) {
        OvenNoses x = Check.told(text);
        pass(x, minute);
        return x;
    }

    private static void pass(OvenNoses x, int minutes) {
        int left = minutes;
        while (left > 0) {
            int some = Math.min(left, 60);
            x.minutes(some);
            left -= some;
        }
    }

    private interface Step {
        long take(OvenNoses x);
    }

    /** Three ovens, the third SHUT; dough 0 DONE, 1 IN, 2 and 3 OUT; image 0 kept; LED, marked, a text begun. */
    private static OvenNoses busy() {
        OvenNoses x = Check.told("o10 9;o20 12;o8 0;d9 0 30 0 20;d0 9 99 2 30;d7 2 60 0 40;d1 1 1 50 60;");
        x.follows(0);
        x.minutes(2);
        x.puts(1, 0);
        x.keep(0);
        x.minutes(1);
        x.shuts(2, 1);
        x.led(2, 1);
        x.mark(3, 1);
        Check.type(x, "o3 3;");
        return x;
    }

    /** Whoever takes these steps is in the end as one that took none. */
    private static void asBefore(String what, Step... steps) {
        OvenNoses x = busy();
        for (Step step : steps) {
            Check.holds(what + " is not refused", step.take(x) != BAD);
        }
        Check.holds(what + ": all is as before", View.ofAll(x).equals(View.ofAll(busy())));
    }

    // ---- 2

    // "THE MINUTE is 0 at first (999 at most)."
    private static void minuteZeroTo999() {
        OvenNoses x = new OvenNoses();
        due("MINUTE at first", x.now(0), 0);
        pass(x, 998);
        due("MINUTE 998", x.now(0), 998);
        due("two more are beyond", x.minutes(2), STATE);
        due("one more is not", x.minutes(1), 0);
        due("MINUTE 999", x.now(0), 999);
        due("no more", x.minutes(1), STATE);
        due("it stays", x.now(0), 999);
        due("undone", x.undo(), 9);
        due("998 again", x.now(0), 998);
        OvenNoses at940 = atMinute("o1 1;", 940);
        due("60 more are beyond", at940.minutes(60), STATE);
        due("59 more are not", at940.minutes(59), 0);
        due("at the last", at940.now(0), 999);
        OvenNoses at939 = atMinute("o1 1;", 939);
        due("60 more just reach it", at939.minutes(60), 0);
        due("at the last, too", at939.now(0), 999);
    }

    // "A DOUGH is OUT at first, IN an OVEN, or DONE. OVENS are open at first, or SHUT"
    private static void outAndOpenAtFirst() {
        OvenNoses x = Check.told("o1 1;".repeat(5) + "d1 1 1 0 9;".repeat(6));
        due("all OUT", x.now(1), 63);
        due("none DONE", x.now(2), 0);
        due("none SHUT", x.now(4), 0);
        for (int d = 0; d < 6; d++) {
            due("OUT " + d, x.dough(d, 5), NONE);
            due("BAKED " + d, x.dough(d, 6), 0);
        }
        for (int o = 0; o < 5; o++) {
            due("open " + o, x.oven(o, 4), 0);
            due("nobody IN " + o, x.oven(o, 2), 0);
        }
    }

    // "(who is IN stays IN)"
    private static void whoIsInStaysIn() {
        OvenNoses x = Check.told("o10 9;d1 1 18 0 9;d1 1 18 0 9;");
        x.puts(0, 0);
        due("SHUT", x.shuts(0, 1), 1);
        due("stays IN", x.dough(0, 5), 0);
        due("IN it", x.oven(0, 2), 1);
        due("nobody comes", x.puts(1, 0), STATE);
        due("bakes on", x.minutes(1), 0);
        due("BAKED", x.dough(0, 6), 9);
        due("is DONE there", x.minutes(1), 1);
        due("leaves it", x.oven(0, 2), 0);
        due("it stays SHUT", x.oven(0, 4), 1);
    }

    // "HOT: an OVEN with n DOUGHS IN has HEAT times (10 less n) by 10, cut."
    private static void hot() {
        int[] heats = {0, 1, 2, 9, 10, 11, 19, 39, 40};
        int[][] wants = {
            {0, 0, 0, 0, 0, 0, 0}, {1, 0, 0, 0, 0, 0, 0}, {2, 1, 1, 1, 1, 1, 0}, {9, 8, 7, 6, 5, 4, 3},
            {10, 9, 8, 7, 6, 5, 4}, {11, 9, 8, 7, 6, 5, 4}, {19, 17, 15, 13, 11, 9, 7},
            {39, 35, 31, 27, 23, 19, 15}, {40, 36, 32, 28, 24, 20, 16},
        };
        for (int i = 0; i < heats.length; i++) {
            OvenNoses x = Check.told("o" + heats[i] + " 9;" + "d1 1 99 0 9;".repeat(6));
            due("HOT of " + heats[i] + ", nobody IN", x.oven(0, 3), wants[i][0]);
            for (int n = 1; n <= 6; n++) {
                due("IN " + n, x.puts(n - 1, 0), n);
                due("HOT of " + heats[i] + ", IN " + n, x.oven(0, 3), wants[i][n]);
            }
            x.minutes(1);
            due("BAKED at " + heats[i] + " by six", x.dough(5, 6), wants[i][6]);
        }
    }

    // "for each one IN it SWEET of both multiplied and SOUR of both multiplied, less SWEET of
    // the one times SOUR of the other, both ways"
    private static void smell() {
        int[][] pairs = {
            {9, 0, 9, 0, 81}, {0, 9, 0, 9, 81}, {9, 0, 0, 9, -81}, {0, 9, 9, 0, -81}, {9, 9, 9, 9, 0},
            {0, 0, 9, 0, 0}, {9, 0, 0, 0, 0}, {0, 0, 0, 0, 0}, {9, 1, 1, 9, -64}, {2, 1, 9, 0, 9},
            {1, 2, 9, 0, -9}, {9, 8, 9, 8, 1}, {9, 8, 8, 9, -1},
        };
        for (int[] p : pairs) {
            OvenNoses x = Check.told("o1 12;d" + p[0] + " " + p[1] + " 9 0 9;d" + p[2] + " " + p[3] + " 9 0 9;");
            due("DRAW alone", x.smell(0, 0), 3);
            x.puts(1, 0);
            String what = p[0] + "/" + p[1] + " by " + p[2] + "/" + p[3];
            due(what, x.smell(0, 0), 3 + p[4]);
            x.undo();
            x.puts(0, 0);
            due(what + ", the other way", x.smell(0, 1), 3 + p[4]);
        }
    }

    private static void smellOfMany() {
        OvenNoses sweet = Check.told("o1 18;" + "d9 0 9 0 9;".repeat(6));
        OvenNoses sour = Check.told("o1 0;d9 0 9 0 9;" + "d0 9 9 0 9;".repeat(5));
        for (int d = 1; d < 6; d++) {
            sweet.puts(d, 0);
            sour.puts(d, 0);
            due("sweet ones IN: " + d, sweet.smell(0, 0), 9 + 81 * d);
            due("sour ones IN: " + d, sour.smell(0, 0), -9 - 81 * d);
        }
        sweet.puts(0, 0);
        due("six IN, itself too", sweet.smell(0, 0), 9 + 81 * 6);
    }

    // "NOSE of a DOUGH: of all open OVENS that of greatest SMELL"
    private static void noseToTheGreatest() {
        for (int first = 0; first <= 18; first++) {
            if (first < 18) {
                due("greater by 1", Check.told("o1 " + first + ";o1 " + (first + 1) + ";d1 1 1 0 0;").dough(0, 7), 1);
            }
            due("like", Check.told("o1 " + first + ";o1 " + first + ";d1 1 1 0 0;").dough(0, 7), 0);
            if (first > 0) {
                due("less by 1", Check.told("o1 " + first + ";o1 " + (first - 1) + ";d1 1 1 0 0;").dough(0, 7), 0);
            }
        }
        OvenNoses x = Check.told("o1 0;o1 5;o1 9;o1 14;o1 18;d1 1 1 0 0;");
        for (int o = 4; o >= 0; o--) {
            due("greatest of the open ones", x.dough(0, 7), o);
            x.shuts(o, 1);
        }
        due("none is open", x.dough(0, 7), NONE);
        due("the SMELL of one that is SHUT stays", x.smell(4, 0), 9);
    }

    // "of like ones the lowest"
    private static void noseOfLikeOnes() {
        OvenNoses x = Check.told("o1 9;o1 9;o1 9;o1 9;o1 9;d1 1 1 0 0;");
        for (int o = 0; o < 5; o++) {
            due("lowest of like ones", x.dough(0, 7), o);
            x.shuts(o, 1);
        }
        x.shuts(3, 0);
        due("the only one", x.dough(0, 7), 3);
        x.shuts(1, 0);
        due("a lower one", x.dough(0, 7), 1);
    }

    // "NONE (none is open)"
    private static void noNose() {
        OvenNoses none = Check.told("d1 1 1 0 0;");
        due("no oven at all", none.dough(0, 7), NONE);
        due("nowhere to go", none.follows(0), STATE);
        // The least SMELL is as NONE is by its number, but leads there.
        OvenNoses least = Check.told("o1 0;d1 1 1 0 0;");
        due("SMELL -9", least.smell(0, 0), -9);
        due("leads there", least.dough(0, 7), 0);
        due("and goes", least.follows(0), 0);
        OvenNoses away = Check.told("o1 0;o1 0;d9 0 9 0 9;d0 9 9 0 9;d0 9 9 0 9;d0 9 9 0 9;");
        for (int d = 1; d < 4; d++) {
            away.puts(d, 0);
        }
        due("far below 0", away.smell(0, 0), -252);
        due("away from it", away.dough(0, 7), 1);
        away.shuts(1, 1);
        due("there, if there is no other", away.dough(0, 7), 0);
        away.shuts(0, 1);
        due("nowhere", away.dough(0, 7), NONE);
    }

    // "RISEN (THE MINUTE is RISEN or more)"
    private static void putWhenRisen() {
        for (int risen : new int[] {1, 2, 30, 60}) {
            String text = "o1 9;d1 1 1 " + risen + " 99;d1 1 1 " + risen + " 99;";
            OvenNoses x = atMinute(text, risen - 1);
            due("follows a minute ahead of " + risen, x.follows(0), STATE);
            due("puts a minute ahead of " + risen, x.puts(1, 0), STATE);
            x.minutes(1);
            due("follows at " + risen, x.follows(0), 0);
            due("puts at " + risen, x.puts(1, 0), 2);
            OvenNoses later = atMinute(text, risen + 1);
            due("follows a minute behind " + risen, later.follows(0), 0);
            due("puts a minute behind " + risen, later.puts(1, 0), 2);
        }
        OvenNoses zero = Check.told("o1 9;d1 1 1 0 9;d1 1 1 0 9;d1 1 1 1 9;");
        due("RISEN 0, follows", zero.follows(0), 0);
        due("RISEN 0, puts", zero.puts(1, 0), 2);
        due("RISEN 1, at 0", zero.follows(2), STATE);
    }

    // "and not GONE SOUR"
    private static void putTillLate() {
        for (int late : new int[] {1, 2, 60, 98, 99}) {
            String text = "o1 9;d1 1 1 0 " + late + ";d1 1 1 0 " + late + ";";
            OvenNoses x = atMinute(text, late - 1);
            due("follows a minute ahead of " + late, x.follows(0), 0);
            due("puts a minute ahead of " + late, x.puts(1, 0), 2);
            OvenNoses at = atMinute(text, late);
            due("follows at " + late, at.follows(0), 0);
            due("puts at " + late, at.puts(1, 0), 2);
            OvenNoses behind = atMinute(text, late + 1);
            due("follows a minute behind " + late, behind.follows(0), STATE);
            due("puts a minute behind " + late, behind.puts(1, 0), STATE);
            due("is OUT and GONE SOUR", behind.now(3), 3);
        }
    }

    private static void putOneMinuteAlone() {
        for (int only : new int[] {0, 1, 60}) {
            OvenNoses x = Check.told("o1 9;d1 1 1 " + only + " " + only + ";");
            for (int m = 0; m < only; m++) {
                due("not yet at " + m, x.follows(0), STATE);
                x.minutes(1);
            }
            due("now at " + only, x.follows(0), 0);
            x.undo();
            x.minutes(1);
            due("no more behind " + only, x.follows(0), STATE);
        }
    }

    // "it is BAKED by 0 then"
    private static void bakedByZeroThen() {
        OvenNoses x = Check.told("o10 9;o20 9;d1 1 99 0 9;");
        x.puts(0, 0);
        due("BAKED by 0", x.dough(0, 6), 0);
        x.minutes(1);
        due("BAKED by 9", x.dough(0, 6), 9);
        x.undo();
        x.undo();
        x.puts(0, 1);
        due("BAKED by 0 again", x.dough(0, 6), 0);
        x.minutes(1);
        due("BAKED by 18", x.dough(0, 6), 18);
    }

    // "whoever is BAKED by NEED or more is DONE, out of it"
    private static void doneByNeed() {
        OvenNoses x = Check.told("o10 9;o10 9;o10 9;d1 1 8 0 9;d1 1 9 0 9;d1 1 10 0 9;");
        for (int d = 0; d < 3; d++) {
            x.puts(d, d);
        }
        due("NEED 8 and 9 by 9", x.minutes(1), 2);
        due("above NEED", x.dough(0, 5), DONE);
        due("just NEED", x.dough(1, 5), DONE);
        due("one below NEED", x.dough(2, 5), 2);
        due("out of it", x.oven(1, 2), 0);
        due("still IN", x.oven(2, 2), 4);
        due("and then", x.minutes(1), 1);
        due("BAKED by 18", x.dough(2, 6), 18);
        due("the others by no more", x.dough(1, 6), 9);
        OvenNoses long99 = Check.told("o2 9;d1 1 99 0 9;");
        long99.puts(0, 0);
        long99.minutes(60);
        due("98 of 99", long99.minutes(38), 0);
        due("IN by 98", long99.dough(0, 5), 0);
        due("99 of 99", long99.minutes(1), 1);
        OvenNoses cold = Check.told("o1 9;o0 9;d1 1 1 0 9;d1 1 1 0 9;");
        cold.puts(0, 0);
        cold.puts(1, 1);
        due("by 0, not even NEED 1", cold.minutes(60), 0);
    }

    // "as its OVEN is HOT at its begin", "(all at once)"
    private static void hotAtItsBegin() {
        OvenNoses x = Check.told("o10 9;d1 1 8 0 9;d1 1 8 0 9;d1 1 25 0 9;");
        x.puts(0, 0);
        x.puts(1, 0);
        x.puts(2, 0);
        due("by 7 each", x.minutes(1), 0);
        due("both at once", x.minutes(1), 2);
        due("the first by 14", x.dough(0, 6), 14);
        due("the second by 14", x.dough(1, 6), 14);
        due("the third by 14, for it was as hot", x.dough(2, 6), 14);
        due("hotter then", x.oven(0, 3), 9);
        x.minutes(1);
        due("23 of 25", x.dough(2, 6), 23);
        due("DONE", x.minutes(1), 1);
    }

    // "UNDONE: the latest PUT, MINUTES, SHUT, opened (10 are known, older ones are lost)"
    private static void tenAreKnown() {
        for (int steps = 0; steps <= 12; steps++) {
            OvenNoses x = Check.told("o1 1;");
            for (int i = 0; i < steps; i++) {
                x.minutes(1);
            }
            int known = Math.min(steps, 10);
            due("known of " + steps, x.count(3), known);
            for (int left = known - 1; left >= 0; left--) {
                due("left of " + steps, x.undo(), left);
                due("MINUTE, left " + left, x.now(0), steps - known + left);
            }
            due("no more of " + steps, x.undo(), STATE);
            due("MINUTE stays", x.now(0), steps - known);
        }
        OvenNoses mixed = Check.told("o10 9;o10 9;d1 1 99 0 99;d1 1 99 0 99;");
        mixed.follows(0);
        mixed.puts(1, 1);
        mixed.minutes(1);
        mixed.shuts(0, 1);
        mixed.shuts(0, 0);
        due("each is a step", mixed.count(3), 5);
        due("opened, undone", mixed.undo(), 4);
        due("SHUT", mixed.now(4), 1);
        due("shut, undone", mixed.undo(), 3);
        due("open", mixed.now(4), 0);
        due("minutes, undone", mixed.undo(), 2);
        due("BAKED by 0", mixed.dough(1, 6), 0);
        due("puts, undone", mixed.undo(), 1);
        due("1 is OUT", mixed.now(1), 2);
        due("follows, undone", mixed.undo(), 0);
        due("both OUT", mixed.now(1), 3);
        // Ten, undone and done again, over and over: never more than ten, never another state.
        OvenNoses again = Check.told("o1 1;");
        for (int i = 0; i < 11; i++) {
            again.minutes(1);
        }
        for (int round = 0; round < 20; round++) {
            due("undone", again.undo(), 9);
            due("MINUTE", again.now(0), 10 + round);
            again.minutes(1);
            again.minutes(1);
            due("ten", again.count(3), 10);
        }
    }

    // "MINUTES (together)"
    private static void minutesTogether() {
        for (int n : new int[] {1, 2, 59, 60}) {
            OvenNoses x = Check.told("o10 9;d1 1 99 0 9;");
            x.puts(0, 0);
            x.minutes(n);
            due("one step for " + n, x.count(3), 2);
            due("undone together", x.undo(), 1);
            due("MINUTE 0", x.now(0), 0);
            due("BAKED by 0", x.dough(0, 6), 0);
            due("IN", x.dough(0, 5), 0);
        }
    }

    // "all is as ahead of it"
    private static void undoneAllIsAsAhead() {
        asBefore("follows", x -> x.follows(2), x -> x.undo());
        asBefore("puts", x -> x.puts(2, 0), x -> x.undo());
        asBefore("minutes 1", x -> x.minutes(1), x -> x.undo());
        asBefore("minutes 60", x -> x.minutes(60), x -> x.undo());
        asBefore("SHUT", x -> x.shuts(0, 1), x -> x.undo());
        asBefore("opened", x -> x.shuts(2, 0), x -> x.undo());
        asBefore("five at once", x -> x.puts(2, 0), x -> x.minutes(60), x -> x.shuts(0, 1), x -> x.minutes(7),
                x -> x.shuts(2, 0), x -> x.undo(), x -> x.undo(), x -> x.undo(), x -> x.undo(), x -> x.undo());
    }

    // ---- 3

    // "(Nothing is changed.)"
    private static void nothingIsChanged() {
        asBefore("when", x -> x.when(1));
        asBefore("moved", x -> x.moved(0), x -> x.moved(1));
        asBefore("order", x -> x.order(0, 999, -1), x -> x.order(2, 50, -2), x -> x.order(1, 999, 0));
        asBefore("fire", x -> x.fire(2, 1), x -> x.fire(0, 99));
        asBefore("odds", x -> x.odds(2, 0, 5, 0), x -> x.odds(3, 2, 5, 1));
        asBefore("vanilla", x -> x.vanilla());
        asBefore("keep and back", x -> x.minutes(5), x -> x.back(0), x -> x.minutes(1), x -> x.shuts(2, 1));
    }

    // "WHEN a DOUGH that is IN is DONE ..: MINUTE; NONE (not within 200 MINUTES)"
    private static void whenWithin200() {
        // The longest that ends: NEED 99 by 1 a MINUTE; what takes longer is at 0 and never ends.
        OvenNoses x = atMinute("o2 9;o1 9;o0 9;d1 1 99 0 99;d1 1 1 0 99;d1 1 1 0 99;d1 1 98 0 99;", 99);
        for (int d = 0; d < 3; d++) {
            x.puts(d, d);
        }
        due("99 MINUTES from 99 on", x.when(0), 198);
        due("never, HEAT 1", x.when(1), NONE);
        due("never, HEAT 0", x.when(2), NONE);
        x.puts(3, 0);
        due("98 MINUTES from 99 on", x.when(3), 197);
        x.minutes(1);
        due("a MINUTE later, as ever", x.when(0), 198);
        pass(x, 97);
        due("the last MINUTE", x.when(0), 198);
        due("the other is DONE", x.when(3), STATE);
        due("DONE at it", x.minutes(1), 1);
        due("DONE", x.when(0), STATE);
        pass(x, 801);
        due("at the last MINUTE, never", x.when(1), NONE);
        OvenNoses six = Check.told("o2 9;" + "d1 1 1 0 9;".repeat(6));
        for (int d = 0; d < 5; d++) {
            six.puts(d, 0);
        }
        due("five by 1", six.when(4), 1);
        six.puts(5, 0);
        due("six by 0", six.when(4), NONE);
    }

    // "if nobody else is PUT"; "(Nothing is changed.)"
    private static void whenNobodyElseIsPut() {
        OvenNoses x = Check.told("o10 9;d1 1 7 0 9;d1 1 8 0 9;d1 1 22 0 9;d1 1 9 5 9;");
        OvenNoses twin = Check.told("o10 9;d1 1 7 0 9;d1 1 8 0 9;d1 1 22 0 9;d1 1 9 5 9;");
        for (int d = 0; d < 3; d++) {
            x.puts(d, 0);
            twin.puts(d, 0);
        }
        due("7 by 7", x.when(0), 1);
        due("8 by 7, 8", x.when(1), 2);
        due("22 by 7, 8, 9", x.when(2), 3);
        due("OUT", x.when(3), STATE);
        Check.holds("nothing is changed", View.ofAll(x).equals(View.ofAll(twin)));
    }

    // "MOVED by an OVEN that is open: DOUGHS that are OUT, whose NOSE would lead elsewhere (or nowhere)"
    private static void movedElsewhereOrNowhere() {
        OvenNoses x = Check.told("o9 10;o9 9;d1 1 9 0 9;d1 1 9 60 60;d1 1 9 0 0;d1 1 99 0 9;d1 1 1 0 9;d1 1 1 0 9;");
        due("all six", x.moved(0), 63);
        due("nobody", x.moved(1), 0);
        x.puts(3, 0);
        x.puts(4, 0);
        x.minutes(1);
        due("OUT alone: not risen, gone sour too", x.moved(0), 1 + 2 + 4 + 32);
        x.shuts(1, 1);
        due("or nowhere", x.moved(0), 1 + 2 + 4 + 32);
        due("SHUT", x.moved(1), STATE);
        OvenNoses none = Check.told("o9 9;");
        due("no dough at all", none.moved(0), 0);
    }

    // "by a MINUTE t (0 .. 999) .. DONE by t or ahead of it"
    private static void orderByT() {
        OvenNoses x = Check.told("o10 9;d1 1 27 0 9;");
        due("t a MINUTE less", x.order(0, 2, -1), 0);
        due("just t", x.order(0, 3, -1), 1);
        due("t a MINUTE more", x.order(0, 4, -1), 1);
        due("t -1", x.order(0, -1, -1), BAD);
        due("t 0", x.order(0, 0, -1), 0);
        due("t 999", x.order(0, 999, -1), 1);
        due("t 1000", x.order(0, 1000, -1), BAD);
        x.minutes(5);
        due("from 5 on, t 7", x.order(0, 7, -1), 0);
        due("from 5 on, t 8", x.order(0, 8, -1), 1);
        due("t is gone", x.order(0, 4, -1), 0);
        due("t is gone: THE MINUTE", x.order(0, 4, -2), 5);
        // The last that can be: 99 MINUTES from 99 on.
        OvenNoses last = Check.told("o2 9;d1 1 99 0 99;");
        pass(last, 99);
        due("t 197", last.order(0, 197, -1), 0);
        due("t 198", last.order(0, 198, -1), 1);
        due("DONE at 198", last.order(0, 198, -2), 198);
    }

    // "not GONE SOUR"
    private static void orderTillLate() {
        for (int late = 1; late <= 3; late++) {
            // 0 can't wait; 1 comes behind it at 2, or not at all.
            OvenNoses x = Check.told("o10 9;d1 1 18 0 0;d1 1 9 0 " + late + ";");
            due("LATE " + late, x.order(0, 999, -1), late >= 2 ? 2 : 1);
            due("first, LATE " + late, x.order(0, 999, 0), late >= 2 ? 0 : 1);
        }
    }

    // "each PUT as soon as it is RISEN and the one ahead is DONE"
    private static void orderFromRisen() {
        for (int risen = 0; risen <= 5; risen++) {
            OvenNoses x = Check.told("o10 9;d1 1 18 0 0;d1 1 9 " + risen + " 9;");
            due("RISEN " + risen, x.order(0, 999, -2), Math.max(2, risen) + 1);
        }
        OvenNoses from = Check.told("o10 9;d1 1 9 3 9;");
        for (int m = 0; m <= 9; m++) {
            due("from " + m, from.order(0, 999, -2), Math.max(3, m) + 1);
            from.minutes(1);
        }
        due("GONE SOUR", from.order(0, 999, -1), 0);
        due("THE MINUTE", from.order(0, 999, -2), 10);
    }

    // "that of most"
    private static void orderOfMost() {
        OvenNoses x = Check.told("o10 9;d1 1 45 0 9;d1 1 18 0 9;d1 1 18 0 9;");
        due("by 3", x.order(0, 3, -1), 1);
        due("by 3, which", x.order(0, 3, 0), 1);
        due("by 4", x.order(0, 4, -1), 2);
        due("by 4, first", x.order(0, 4, 0), 1);
        due("by 8", x.order(0, 8, -1), 2);
        due("by 8, as soon", x.order(0, 8, -2), 4);
        due("by 9", x.order(0, 9, -1), 3);
        due("by 9, first", x.order(0, 9, 0), 0);
    }

    // "of several the one that is DONE soonest, then the first (by numbers)"
    private static void orderSoonestThenFirst() {
        OvenNoses like = Check.told("o10 9;d1 1 18 0 9;d1 1 18 0 9;");
        due("like ones", like.order(0, 3, 0), 0);
        due("both", like.order(0, 4, 0), 0);
        due("both, second", like.order(0, 4, 1), 1);
        OvenNoses sooner = Check.told("o10 9;d1 1 19 0 9;d1 1 18 0 9;");
        due("sooner ahead of first", sooner.order(0, 4, 0), 1);
        due("sooner, when", sooner.order(0, 4, -2), 2);
        due("both, the first by numbers", sooner.order(0, 5, 0), 0);
        OvenNoses waits = Check.told("o10 9;d1 1 9 1 9;d1 1 9 0 9;");
        due("no waiting", waits.order(0, 9, 0), 1);
        due("no waiting, second", waits.order(0, 9, 1), 0);
        due("no waiting, when", waits.order(0, 9, -2), 2);
        OvenNoses ends = Check.told("o10 9;d1 1 9 2 9;d1 1 9 0 9;d1 1 9 0 9;");
        due("first of as soon", ends.order(0, 9, 0), 1);
        due("second", ends.order(0, 9, 1), 2);
        due("third", ends.order(0, 9, 2), 0);
        due("when", ends.order(0, 9, -2), 3);
    }

    // "the i-th; NONE (not so many)"
    private static void orderOfSix() {
        String text = "o10 9;";
        for (int n = 0; n <= 6; n++) {
            OvenNoses x = Check.told(text);
            due("how many of " + n, x.order(0, 999, -1), n);
            due("when, of " + n, x.order(0, 999, -2), n);
            for (int i = 0; i < 6; i++) {
                due(i + "-th of " + n, x.order(0, 999, i), i < n ? n - 1 - i : NONE);
            }
            // Each one more can only go ahead of all others.
            text = "o10 9;";
            for (int late = n; late >= 0; late--) {
                text += "d1 1 9 0 " + late + ";";
            }
        }
        OvenNoses six = Check.told("o40 9;" + "d1 1 99 0 99;".repeat(6));
        due("six by 18", six.order(0, 18, -1), 6);
        due("five by 17", six.order(0, 17, -1), 5);
        due("five: no fifth behind", six.order(0, 17, 5), NONE);
        due("five: the fourth behind", six.order(0, 17, 4), 4);
        due("five: when", six.order(0, 17, -2), 15);
    }

    // "how many; when the last one is DONE (THE MINUTE, if there is none)"
    private static void orderOfNone() {
        OvenNoses none = Check.told("o40 9;");
        due("no dough: how many", none.order(0, 999, -1), 0);
        due("no dough: when", none.order(0, 999, -2), 0);
        due("no dough: which", none.order(0, 999, 0), NONE);
        pass(none, 999);
        due("no dough: when, at 999", none.order(0, 0, -2), 999);
        OvenNoses in = Check.told("o40 9;o40 9;d1 1 36 0 9;d1 1 99 0 9;");
        in.puts(0, 0);
        in.puts(1, 1);
        in.minutes(1);
        due("DONE and IN: how many", in.order(0, 999, -1), 0);
        due("DONE and IN: when", in.order(0, 999, -2), 1);
        OvenNoses shut = Check.told("o10 9;d1 1 9 0 9;d1 1 99 0 9;");
        shut.puts(1, 0);
        shut.shuts(0, 1);
        due("as if it were open, nobody IN", shut.order(0, 999, -2), 1);
    }

    // "(Alone it is BAKED by HEAT times 9 by 10, cut, a MINUTE.)"
    private static void orderAlone() {
        int[] heats = {0, 1, 2, 3, 10, 11, 12, 39, 40};
        int[] ends = {0, 0, 99, 50, 11, 11, 10, 3, 3};
        for (int i = 0; i < heats.length; i++) {
            OvenNoses x = Check.told("o" + heats[i] + " 9;d1 1 99 0 0;");
            due("how many at " + heats[i], x.order(0, 999, -1), heats[i] < 2 ? 0 : 1);
            due("when at " + heats[i], x.order(0, 999, -2), ends[i]);
        }
        OvenNoses x = Check.told("o40 9;d1 1 36 0 0;d1 1 37 0 0;d1 1 35 0 0;");
        due("36 by 36", x.order(0, 1, 0), 0);
        due("one alone, for none can wait", x.order(0, 999, -1), 1);
        OvenNoses more = Check.told("o40 9;d1 1 37 0 0;");
        due("37 by 36 is not DONE at 1", more.order(0, 1, -1), 0);
        due("but at 2", more.order(0, 2, -1), 1);
    }

    // "FIRE for a DOUGH, by n (1 .. 99) MINUTES: the least HEAT (above 40, too)"
    private static void fireLeast() {
        OvenNoses x = Check.told("d0 0 99 0 0;d0 0 1 0 0;d0 0 36 0 0;d0 0 37 0 0;d0 0 9 0 0;d0 0 10 0 0;");
        for (int d = 0; d < 6; d++) {
            int need = x.dough(d, 2);
            due("n 0", x.fire(d, 0), BAD);
            due("n 100", x.fire(d, 100), BAD);
            for (int n : new int[] {1, 2, 3, 10, 11, 49, 50, 98, 99}) {
                int heat = x.fire(d, n);
                Check.holds("DONE by it: " + need + " in " + n, heat * 9 / 10 * n >= need);
                Check.holds("not by one less: " + need + " in " + n, (heat - 1) * 9 / 10 * n < need);
            }
        }
        due("NEED 36 at once: 40", x.fire(2, 1), 40);
        due("NEED 37 at once: above 40", x.fire(3, 1), 42);
        due("NEED 99 at once", x.fire(0, 1), 110);
        due("NEED 99 in 2", x.fire(0, 2), 56);
        due("NEED 99 in 98", x.fire(0, 98), 3);
        due("NEED 99 in 99", x.fire(0, 99), 2);
        due("NEED 1 in 99", x.fire(1, 99), 2);
        due("NEED 9 at once", x.fire(4, 1), 10);
        due("NEED 10 at once", x.fire(5, 1), 12);
    }

    // "LED (6 at most): NOSE of a DOUGH led to an OVEN."
    private static void ledSixAtMost() {
        OvenNoses x = Check.told("o1 9;o1 9;d1 1 1 0 9;");
        for (int n = 1; n <= 6; n++) {
            due("LED " + n, x.led(0, n % 2), n);
            due("so much there is", x.count(2), n);
        }
        due("a seventh", x.led(0, 0), FULL);
        due("six stay", x.count(2), 6);
        due("all six are forgotten", x.forget(), 6);
        due("none is", x.forget(), 0);
        due("the first again", x.led(0, 0), 1);
    }

    // "OVENS in which 9 SWEET more (a DOUGH of SWEET 9, SOUR 0 ..) might be hidden, so that all
    // that was LED is so NOW; bit 5: nowhere."
    private static void vanillaNineMore() {
        // A dough of SWEET 1 smells 9 more by it, one of SOUR 1 smells 9 less.
        due("higher oven, 10 less", vanillaOf("o1 18;o1 8;d1 0 1 0 0;", 1), 0);
        due("higher oven, 9 less", vanillaOf("o1 18;o1 9;d1 0 1 0 0;", 1), 0);
        due("higher oven, 8 less", vanillaOf("o1 18;o1 10;d1 0 1 0 0;", 1), 2);
        due("lower oven, 10 less", vanillaOf("o1 8;o1 18;d1 0 1 0 0;", 0), 0);
        due("lower oven, 9 less", vanillaOf("o1 9;o1 18;d1 0 1 0 0;", 0), 1);
        due("lower oven, 8 less", vanillaOf("o1 10;o1 18;d1 0 1 0 0;", 0), 1);
        due("sour one, 10 more", vanillaOf("o1 18;o1 8;d0 1 1 0 0;", 1), 0);
        due("sour one, 9 more in the lower", vanillaOf("o1 18;o1 9;d0 1 1 0 0;", 1), 0);
        due("sour one, 8 more in the lower", vanillaOf("o1 18;o1 10;d0 1 1 0 0;", 1), 1);
        due("sour one, 9 more in the higher", vanillaOf("o1 9;o1 18;d0 1 1 0 0;", 0), 2);
        due("neither sweet nor sour", vanillaOf("o1 10;o1 9;d0 0 1 0 0;", 0), 32 + 3);
        due("as sweet as sour", vanillaOf("o1 10;o1 9;d9 9 1 0 0;", 0), 32 + 3);
        due("sweet, nowhere or there", vanillaOf("o1 10;o1 9;d9 0 1 0 0;", 0), 32 + 1);
        due("sour, nowhere or elsewhere", vanillaOf("o1 10;o1 9;d0 9 1 0 0;", 0), 32 + 2);
    }

    private static int vanillaOf(String text, int ledTo) {
        OvenNoses x = Check.told(text);
        x.led(0, ledTo);
        return x.vanilla();
    }

    // "bits 0 .. 4", "(.. that does not cool it)"
    private static void vanillaOvens() {
        for (int n = 0; n <= 5; n++) {
            OvenNoses x = Check.told("o7 9;".repeat(n) + "d1 0 1 0 0;");
            due("nothing LED, ovens " + n, x.vanilla(), 32 + (1 << n) - 1);
            for (int o = 0; o < n; o++) {
                x.forget();
                x.led(0, o);
                due("LED to " + o + " of " + n, x.vanilla(), o == 0 ? 33 : 1 << o);
            }
        }
        OvenNoses x = Check.told("o10 9;d9 0 9 0 9;d9 0 9 0 9;");
        x.puts(0, 0);
        x.led(1, 0);
        due("there or nowhere", x.vanilla(), 33);
        due("not cooled", x.oven(0, 3), 9);
        due("not IN", x.oven(0, 2), 1);
        due("no SMELL of it", x.smell(0, 1), 81);
        // All that was LED, to the last of six.
        OvenNoses six = Check.told("o1 9;o1 9;d1 0 1 0 0;d0 1 1 0 0;");
        for (int n = 0; n < 5; n++) {
            six.led(0, 0);
        }
        due("five", six.vanilla(), 33);
        six.led(1, 1);
        due("the sixth, too", six.vanilla(), 1);
    }

    // "by x (0 .. 10): the SMELL of each open OVEN is blown away by x in 10, for itself"
    private static void oddsByX() {
        OvenNoses x = Check.told("o1 18;o1 17;o1 16;o1 15;o1 14;d1 1 1 0 0;");
        for (int by = 0; by <= 10; by++) {
            long upper = 10 - by;
            long lower = 10;
            for (int o = 0; o < 5; o++) {
                long g = upper == 0 ? lower : gcd(upper, lower);
                due("upper, " + o + " by " + by, x.odds(0, o, by, 0), upper / g);
                due("lower, " + o + " by " + by, x.odds(0, o, by, 1), lower / g);
                upper *= by;
                lower *= 10;
            }
        }
        due("x -1", x.odds(0, 0, -1, 0), BAD);
        due("x 11", x.odds(0, 0, 11, 0), BAD);
        due("what -1", x.odds(0, 0, 5, -1), BAD);
        due("what 2", x.odds(0, 0, 5, 2), BAD);
        due("no wind: surely", x.odds(0, 0, 0, 0), 1);
        due("no wind: of one", x.odds(0, 0, 0, 1), 1);
        due("all wind: never", x.odds(0, 0, 10, 0), 0);
        due("all wind: of one", x.odds(0, 0, 10, 1), 1);
        due("the least upper number", x.odds(0, 4, 1, 0), 9);
        due("the greatest lower number", x.odds(0, 4, 1, 1), 100000);
    }

    private static long gcd(long a, long b) {
        return b == 0 ? a : gcd(b, a % b);
    }

    // "(it counts as SHUT)"
    private static void oddsOfShutOnes() {
        OvenNoses x = Check.told("o1 18;o1 17;o1 17;d1 1 1 0 0;");
        x.shuts(0, 1);
        due("a SHUT one: never", x.odds(0, 0, 3, 0), 0);
        due("a SHUT one: of one", x.odds(0, 0, 3, 1), 1);
        due("the next is first: upper", x.odds(0, 1, 3, 0), 7);
        due("the next is first: lower", x.odds(0, 1, 3, 1), 10);
        due("like, but higher: upper", x.odds(0, 2, 3, 0), 21);
        due("like, but higher: lower", x.odds(0, 2, 3, 1), 100);
        x.shuts(1, 1);
        x.shuts(2, 1);
        due("all SHUT", x.odds(0, 2, 0, 0), 0);
        due("all SHUT: of one", x.odds(0, 2, 0, 1), 1);
    }

    // "that NOSE leads there: a fraction": however little it smells, only ovens that are there stand ahead.
    private static void oddsOfTheLeastSmell() {
        for (int draw : new int[] {0, 1, 9, 18}) {
            OvenNoses alone = Check.told("o1 " + draw + ";d1 1 1 0 0;");
            due("alone, DRAW told as " + draw + ": upper", alone.odds(0, 0, 3, 0), 7);
            due("alone, DRAW told as " + draw + ": lower", alone.odds(0, 0, 3, 1), 10);
        }
        OvenNoses far = Check.told("o1 0;o1 1;d9 0 9 0 9;d0 9 9 0 9;");
        due("SMELL -9, one ahead: upper", far.odds(0, 0, 3, 0), 21);
        due("SMELL -9, one ahead: lower", far.odds(0, 0, 3, 1), 100);
        far.puts(1, 1);
        due("SMELL far below 0", far.smell(1, 0), -89);
        due("far below 0, one ahead: upper", far.odds(0, 1, 3, 0), 21);
        due("far below 0, one ahead: lower", far.odds(0, 1, 3, 1), 100);
        due("SMELL -9, none ahead: upper", far.odds(0, 0, 3, 0), 7);
        far.shuts(0, 1);
        due("far below 0, alone: upper", far.odds(0, 1, 3, 0), 7);
        due("far below 0, alone: lower", far.odds(0, 1, 3, 1), 10);
    }

    // ---- 4

    // "KINDS of DOUGHS are over one another: 0 DOUGH; .. 5 SNIFF"
    private static void kinds() {
        int[][] doughs = {{0, 9}, {9, 0}, {9, 9}, {0, 0}, {5, 4}, {1, 8}};
        StringBuilder text = new StringBuilder("o40 9;");
        for (int[] it : doughs) {
            text.append("d").append(it[0]).append(" ").append(it[1]).append(" 99 0 99;");
        }
        OvenNoses x = Check.told(text.toString());
        long trace = 0;
        for (int round = 0; round < 2; round++) {
            int minute = x.now(0);
            for (int d = 0; d < 6; d++) {
                int sweet = doughs[d][0];
                int sour = doughs[d][1];
                int baked = x.dough(d, 6);
                int[] marks = {sweet, sweet + baked, sweet - sour, (sweet + baked) * 2, sweet - sour + d, sweet + minute};
                int[] traces = {1, 11, 101, 1011, 10101, 100001};
                due("kind -1", x.mark(-1, d), -1000000);
                for (int kind = 0; kind < 6; kind++) {
                    due("kind " + kind + " of " + d, x.mark(kind, d), marks[kind]);
                    trace += traces[kind];
                    due("trace of " + kind, x.trace(), trace);
                }
                due("kind 6", x.mark(6, d), -1000000);
            }
            x.puts(2, 0);
            pass(x, 3);
        }
        due("BAKED and DONE: BRIDE", x.mark(3, 2), (9 + 108) * 2);
        pass(x, 993);
        due("SNIFF at 999", x.mark(5, 1), 9 + 999);
    }

    // "IMAGES 0, 1 keep NOW ..; nothing else."
    private static void imagesKeepNowAlone() {
        for (int image = -2; image <= 3; image++) {
            OvenNoses x = Check.told("o1 1;");
            boolean is = image == 0 || image == 1;
            due("back " + image + ", none was kept", x.back(image), is ? STATE : BAD);
            due("keep " + image, x.keep(image), is ? 0 : BAD);
            x.minutes(7);
            due("back " + image, x.back(image), is ? 0 : BAD);
            due("MINUTE behind back " + image, x.now(0), is ? 0 : 7);
            if (is) {
                due("the other was not kept", x.back(1 - image), STATE);
            }
        }
        OvenNoses x = Check.told("o10 9;o20 9;d1 1 99 0 9;d1 1 10 0 9;");
        x.puts(0, 0);
        x.keep(0);
        x.led(1, 1);
        x.mark(0, 0);
        x.type('o');
        x.keep(1);
        x.minutes(1);
        x.shuts(1, 1);
        due("back", x.back(0), 0);
        due("LED stays", x.count(2), 1);
        due("the trace stays", x.trace(), 1);
        due("the text stays", x.count(4), 1);
        due("ovens stay", x.count(0), 2);
        due("the other image stays", x.back(1), 0);
        x.forget();
        x.clear();
        x.back(1);
        due("what was forgotten stays so", x.count(2), 0);
        due("what was cleared stays so", x.count(4), 0);
    }

    // "what may be UNDONE"
    private static void imagesKeepWhatMayBeUndone() {
        for (int steps : new int[] {0, 1, 9, 10, 11}) {
            OvenNoses x = Check.told("o10 9;d1 1 99 0 99;");
            for (int i = 0; i < steps; i++) {
                x.minutes(1);
            }
            x.keep(1);
            int known = Math.min(steps, 10);
            for (int i = 0; i < 10; i++) {
                x.shuts(0, 1 - i % 2);
            }
            due("back to " + steps, x.back(1), steps);
            due("known", x.count(3), known);
            due("open", x.now(4), 0);
            for (int left = known - 1; left >= 0; left--) {
                due("undone", x.undo(), left);
                due("MINUTE", x.now(0), steps - known + left);
            }
            due("no more", x.undo(), STATE);
            due("back again", x.back(1), steps);
            due("known again", x.count(3), known);
        }
        // back() itself is no step, nor is keep().
        OvenNoses x = Check.told("o1 1;");
        x.keep(0);
        due("keep is no step", x.count(3), 0);
        x.minutes(1);
        x.back(0);
        due("back is no step", x.undo(), STATE);
    }

    // "All of that becomes as an IMAGE has it"
    private static void imagesBringAllBack() {
        String text = "o10 9;o20 12;o8 0;d9 0 30 0 20;d0 9 99 2 30;d7 2 60 0 40;";
        OvenNoses x = Check.told(text);
        OvenNoses twin = Check.told(text);
        for (OvenNoses each : new OvenNoses[] {x, twin}) {
            each.follows(0);
            each.minutes(2);
            each.puts(1, 0);
            each.shuts(2, 1);
            each.minutes(1);
            each.keep(0);
        }
        x.undo();
        x.undo();
        x.shuts(0, 1);
        x.puts(2, 1);
        x.minutes(60);
        x.undo();
        x.minutes(9);
        due("back", x.back(0), 3);
        Check.holds("all is as it was kept", View.ofAll(x).equals(View.ofAll(twin)));
    }

    private static void imagesAreTwo() {
        OvenNoses x = Check.told("o1 1;");
        x.minutes(1);
        due("keep 0", x.keep(0), 1);
        x.minutes(1);
        due("keep 1", x.keep(1), 2);
        x.minutes(1);
        due("back 0", x.back(0), 1);
        due("back 1", x.back(1), 2);
        due("back 0 again", x.back(0), 1);
        due("kept over it", x.keep(1), 1);
        due("the newer alone", x.back(1), 1);
    }
}
