/**
 * 'Terms', part 1, and promise 4: every bound of what a text may tell, at it, just below
 * and just above; each method tests one sentence, which stands above it.
 */
public final class TextBoundTests {
    private static final String ITEM_OVEN = "o1 1;";
    private static final String ITEM_DOUGH = "d1 1 1 1 1;";

    public static void main(String[] args) {
        fiveOvensAtMost();
        heat();
        draw();
        sixDoughsAtMost();
        sweetAndSour();
        need();
        risen();
        late();
        afterLateGoneSour();
        textOf180Bytes();
        blanks();
        itemsEndedBySemicolon();
        howManyNumbers();
        everyByteAtTheBegin();
        everyByteBehindLetters();
        everyByteBehindANumber();
        everyByteBehindTheLastNumber();
        everyByteBehindAnItem();
        lettersThatBeginNoItem();
        numbersAbove99();
        zeroAheadOfOthers();
        endsTooEarly();
        theFirstFault();
        faultLeavesAll();
        readsAnew();
        emptyText();
        Check.end();
    }

    private static int quarterOf(String text) {
        OvenNoses x = new OvenNoses();
        Check.type(x, text);
        return x.quarter();
    }

    private static void reads(String text, int items) {
        Check.due("quarter() of '" + text + "'", quarterOf(text), items);
    }

    private static void fault(String text, int place) {
        Check.due("quarter() of '" + text + "'", quarterOf(text), -10 - place);
    }

    // "OVENS 0 .. (5 of them at most)"; "a sixth oven, .. too"
    private static void fiveOvensAtMost() {
        for (int n = 0; n <= 5; n++) {
            OvenNoses x = Check.told(ITEM_OVEN.repeat(n));
            Check.due(n + " ovens", x.count(0), n);
            Check.due("no oven above " + n, x.oven(n, 0), -1000000);
            if (n > 0) {
                Check.due("the last of " + n, x.oven(n - 1, 0), 1);
            }
        }
        reads(ITEM_OVEN.repeat(4), 4);
        reads(ITEM_OVEN.repeat(5), 5);
        fault(ITEM_OVEN.repeat(6), 25);
        fault(ITEM_OVEN.repeat(5) + "o", 25);
        fault(ITEM_OVEN.repeat(5) + "  o1 1;", 27);
        fault(ITEM_OVEN.repeat(5) + ITEM_DOUGH + ITEM_OVEN, 36);
        reads(ITEM_OVEN.repeat(5) + ITEM_DOUGH, 6);
    }

    // "HEAT (0 .. 40)"
    private static void heat() {
        for (int h : new int[] {0, 1, 39, 40}) {
            Check.due("HEAT " + h, Check.told("o" + h + " 9;").oven(0, 0), h);
        }
        fault("o41 9;", 1);
        fault("o42 9;", 1);
        fault("o99 9;", 1);
        fault("o-1 9;", 1);
    }

    // "DRAW (-9 .. 9; told as DRAW and 9: 0 .. 18)"
    private static void draw() {
        for (int told : new int[] {0, 1, 8, 9, 10, 17, 18}) {
            Check.due("DRAW told as " + told, Check.told("o5 " + told + ";").oven(0, 1), told - 9);
        }
        fault("o5 19;", 3);
        fault("o5 20;", 3);
        fault("o5 99;", 3);
        fault("o5 -1;", 3);
    }

    // "DOUGHS 0 .. (6 of them at most)"; "a seventh dough, .. too"
    private static void sixDoughsAtMost() {
        for (int n = 0; n <= 6; n++) {
            OvenNoses x = Check.told(ITEM_DOUGH.repeat(n));
            Check.due(n + " doughs", x.count(1), n);
            Check.due("no dough above " + n, x.dough(n, 0), -1);
            if (n > 0) {
                Check.due("the last of " + n, x.dough(n - 1, 0), 1);
            }
        }
        reads(ITEM_DOUGH.repeat(5), 5);
        reads(ITEM_DOUGH.repeat(6), 6);
        fault(ITEM_DOUGH.repeat(7), 66);
        fault(ITEM_DOUGH.repeat(6) + "d", 66);
        fault(ITEM_DOUGH.repeat(6) + ITEM_OVEN + " " + ITEM_DOUGH, 72);
        reads(ITEM_DOUGH.repeat(6) + ITEM_OVEN.repeat(5), 11);
    }

    // "SWEET, SOUR (0 .. 9 each)"
    private static void sweetAndSour() {
        for (int n : new int[] {0, 1, 8, 9}) {
            OvenNoses x = Check.told("d" + n + " 5 1 0 0;d5 " + n + " 1 0 0;");
            Check.due("SWEET " + n, x.dough(0, 0), n);
            Check.due("SOUR " + n, x.dough(1, 1), n);
        }
        fault("d10 0 1 0 0;", 1);
        fault("d11 0 1 0 0;", 1);
        fault("d-1 0 1 0 0;", 1);
        fault("d9 10 1 0 0;", 3);
        fault("d9 11 1 0 0;", 3);
        fault("d9 -1 1 0 0;", 3);
    }

    // "NEED (1 .. 99)"
    private static void need() {
        for (int n : new int[] {1, 2, 98, 99}) {
            Check.due("NEED " + n, Check.told("d0 0 " + n + " 0 0;").dough(0, 2), n);
        }
        fault("d0 0 0 0 0;", 5);
        fault("d0 0 100 0 0;", 5);
        fault("d0 0 -1 0 0;", 5);
    }

    // "from which MINUTE on it has risen (RISEN, 0 .. 60)"
    private static void risen() {
        for (int n : new int[] {0, 1, 59, 60}) {
            Check.due("RISEN " + n, Check.told("d0 0 1 " + n + " 99;").dough(0, 3), n);
        }
        fault("d0 0 1 61 99;", 7);
        fault("d0 0 1 62 99;", 7);
        fault("d0 0 1 -1 99;", 7);
    }

    // "till which it may go in (LATE, RISEN .. 99 ..)"
    private static void late() {
        for (int n : new int[] {0, 1, 30, 60}) {
            for (int late : new int[] {n, n + 1, 98, 99}) {
                OvenNoses x = Check.told("d0 0 1 " + n + " " + late + ";");
                Check.due("RISEN " + n + ", LATE " + late, x.dough(0, 4), late);
            }
        }
        fault("d0 0 1 1 0;", 9);
        fault("d0 0 1 30 29;", 10);
        fault("d0 0 1 60 59;", 10);
        fault("d0 0 1 60 0;", 10);
        fault("d0 0 1 0 100;", 9);
        fault("d0 0 1 60 100;", 10);
        fault("d0 0 1 0 -1;", 9);
        // Each dough's LATE is told by its own RISEN, not by one that stands ahead of it.
        reads("d0 0 1 50 60;d0 0 1 3 4;", 2);
        fault("d0 0 1 3 4;d0 0 1 50 49;", 21);
    }

    // "after that it is GONE SOUR"
    private static void afterLateGoneSour() {
        for (int late : new int[] {1, 2, 59, 99}) {
            OvenNoses x = Check.told("o9 9;d0 0 1 0 " + late + ";");
            for (int m = 0; m <= late; m++) {
                Check.due("at " + m + " of LATE " + late, x.now(3), 0);
                x.minutes(1);
            }
            Check.due("just behind LATE " + late, x.now(3), 1);
            Check.due("goes in no more", x.puts(0, 0), -2);
            x.minutes(1);
            Check.due("and stays so", x.now(3), 1);
        }
        OvenNoses zero = Check.told("o9 9;d0 0 1 0 0;");
        Check.due("LATE 0, at 0", zero.now(3), 0);
        zero.minutes(1);
        Check.due("LATE 0, at 1", zero.now(3), 1);
    }

    // "a text (180 bytes at most)"
    private static void textOf180Bytes() {
        reads(" ".repeat(174) + ITEM_OVEN, 1);
        reads(" ".repeat(175) + ITEM_OVEN, 1);
        reads(ITEM_OVEN + " ".repeat(175), 1);
        reads("o" + " ".repeat(87) + "1" + " ".repeat(88) + "12;", 1);
        reads(" ".repeat(180), 0);
        fault(" ".repeat(178) + "o", 179);
        fault(" ".repeat(179) + "o", 180);
        fault(" ".repeat(179) + ";", 179);
        fault(" ".repeat(179) + "x", 179);
        fault("o1 1" + " ".repeat(176), 180);
        fault("o" + "1".repeat(179), 1);
        fault("o".repeat(180), 0);
        fault(ITEM_OVEN + ";".repeat(175), 5);
        OvenNoses x = new OvenNoses();
        Check.type(x, " ".repeat(175) + ITEM_OVEN);
        Check.due("one byte too many", x.type('x'), -3);
        Check.due("it did not come to the text", x.quarter(), 1);
    }

    // "blanks (32) between TOKENS"
    private static void blanks() {
        reads("o40 18;", 1);
        reads("o 40 18 ;", 1);
        reads("   o   40   18   ;   ", 1);
        reads("d 1 2 3 4 5 ;", 1);
        reads("o1 1;d1 1 1 1 1;", 2);
        reads("o1 1; d1 1 1 1 1; ", 2);
        fault("o4 0 18;", 5);
        fault("o4018;", 1);
        fault("o1 1 8;", 5);
        for (int c : new int[] {0, 9, 10, 13, 31, 33, 160}) {
            String sign = String.valueOf((char) c);
            fault(sign + "o1 1;", 0);
            fault("o" + sign + "1 1;", 1);
            fault("o1" + sign + "1;", 2);
            fault("o1 1" + sign + ";", 4);
            fault("o1 1;" + sign, 5);
        }
    }

    // "ITEMS, each letters and what is told, ended by ;"
    private static void itemsEndedBySemicolon() {
        fault("o1 1", 4);
        fault("o1 1;;", 5);
        fault(";", 0);
        fault(" ;o1 1;", 1);
        fault("o1 1 o1 1;", 5);
        fault("o1 1d1 1 1 1 1;", 4);
        fault("o1 1:", 4);
        fault("o1 1<", 4);
        fault("1 1;", 0);
        fault("1 o 1;", 0);
    }

    // "o H D (an oven) ; d S T N A B (a dough: SWEET, SOUR, NEED, RISEN, LATE)"
    private static void howManyNumbers() {
        fault("o;", 1);
        fault("o1;", 2);
        reads("o1 1;", 1);
        fault("o1 1 1;", 5);
        fault("d;", 1);
        fault("d1;", 2);
        fault("d1 1;", 4);
        fault("d1 1 1;", 6);
        fault("d1 1 1 1;", 8);
        reads("d1 1 1 1 1;", 1);
        fault("d1 1 1 1 1 1;", 11);
        OvenNoses x = Check.told("d1 2 3 4 5;o6 7;");
        int[] numbers = {1, 2, 3, 4, 5};
        for (int what = 0; what < 5; what++) {
            Check.due("number " + what + " of the dough", x.dough(0, what), numbers[what]);
        }
        Check.due("H", x.oven(0, 0), 6);
        Check.due("D", x.oven(0, 1), -2);
    }

    private static boolean isLetter(int c) {
        return c >= 97 && c <= 122;
    }

    private static boolean isDigit(int c) {
        return c >= 48 && c <= 57;
    }

    // "TOKENS are letters a .. z side by side, NUMBERS and ;", "of a byte that begins none"
    private static void everyByteAtTheBegin() {
        for (int c = 0; c < 256; c++) {
            int want = c == ' ' ? 0 : c == 'o' || c == 'd' ? -11 : -10;
            Check.due("byte " + c + " alone", quarterOf(String.valueOf((char) c)), want);
        }
    }

    private static void everyByteBehindLetters() {
        for (int c = 0; c < 256; c++) {
            // Letters beside the o make another token of it; a digit or a blank lets it go on.
            int want = isLetter(c) ? -10 : isDigit(c) || c == ' ' ? -12 : -11;
            Check.due("byte " + c + " behind o", quarterOf("o" + (char) c), want);
        }
    }

    private static void everyByteBehindANumber() {
        for (int c = 0; c < 256; c++) {
            int want = isDigit(c) || c == ' ' ? -13 : -12;
            Check.due("byte " + c + " behind o1", quarterOf("o1" + (char) c), want);
        }
    }

    private static void everyByteBehindTheLastNumber() {
        for (int c = 0; c < 256; c++) {
            int digit = c == '9' ? -13 : -15;
            int want = c == ';' ? 1 : isDigit(c) ? digit : c == ' ' ? -15 : -14;
            Check.due("byte " + c + " behind o1 1", quarterOf("o1 1" + (char) c), want);
        }
    }

    private static void everyByteBehindAnItem() {
        for (int c = 0; c < 256; c++) {
            int want = c == ' ' ? 1 : c == 'o' || c == 'd' ? -16 : -15;
            Check.due("byte " + c + " behind o1 1;", quarterOf("o1 1;" + (char) c), want);
        }
    }

    // "letters that begin no ITEM"
    private static void lettersThatBeginNoItem() {
        for (char c = 'a'; c <= 'z'; c++) {
            if (c != 'o' && c != 'd') {
                fault(c + "1 1;", 0);
            }
            fault(" o" + c + "1 1;", 1);
            fault(" " + c + "o1 1;", 1);
            fault("o1 1;d" + c + " 1 1 1 1 1;", 5);
            fault("o1 1;" + c + "d 1 1 1 1 1;", 5);
            fault("o1 " + c + ";", 3);
            fault("o " + c + c + " 1;", 2);
            fault("d0 0 " + c + " 0 0;", 5);
            fault("d0 0 1 0 " + c + ";", 9);
        }
        fault("O1 1;", 0);
        fault("D1 1 1 1 1;", 0);
        fault("o o1 1;", 2);
        fault("o d;", 2);
    }

    // "a NUMBER above 99 .. that TOKEN's"
    private static void numbersAbove99() {
        reads("d0 0 99 0 99;", 1);
        fault("d0 0 100 0 99;", 5);
        fault("d0 0 101 0 99;", 5);
        fault("d0 0 999 0 99;", 5);
        fault("d0 0 99 0 100;", 10);
        fault("o100 1;", 1);
        fault("o1 118;", 3);
        // Numbers that would be small ones, if they wrapped around.
        fault("o4294967296 1;", 1);
        fault("o4294967297 1;", 1);
        fault("o18446744073709551617 1;", 1);
        fault("o1 18446744073709551616;", 3);
        fault("d0 0 2147483648 0 0;", 5);
        fault("o1 1; 100", 6);
        fault("o1 1 100", 5);
    }

    // "or with a 0 ahead of others, that TOKEN's"
    private static void zeroAheadOfOthers() {
        reads("o0 0;", 1);
        reads("d0 0 1 0 0;", 1);
        reads("o10 10;", 1);
        fault("o00 0;", 1);
        fault("o01 0;", 1);
        fault("o09 0;", 1);
        fault("o010 0;", 1);
        fault("o0 00;", 3);
        fault("o0 018;", 3);
        fault("d0 0 01 0 0;", 5);
        fault("d0 0 1 00 0;", 7);
        fault("d0 0 1 0 00;", 9);
        fault("o000000000000 1;", 1);
    }

    // "the text's length, if it ends too early"
    private static void endsTooEarly() {
        String whole = " o 30 12 ; d 1 2 33 4 56 ; ";
        for (int length = 0; length <= whole.length(); length++) {
            int want = -10 - length;
            if (length < 2) {
                want = 0;
            } else if (length == 10 || length == 11) {
                want = 1;
            } else if (length >= 26) {
                want = 2;
            }
            Check.due("quarter() of the first " + length, quarterOf(whole.substring(0, length)), want);
        }
        // A token that can't stand is the fault, though the text ends with it.
        fault("o41", 1);
        fault("o4 19", 3);
        fault("d0 0 0", 5);
        fault("d0 0 1 61", 7);
        fault("d0 0 1 5 4", 9);
        fault("o0 100", 3);
        fault("o 00", 2);
    }

    // "the place of the first byte of the first TOKEN that can't stand there"
    private static void theFirstFault() {
        fault("x y", 0);
        fault("o1 99;x;100", 3);
        fault("o1 1;?;o41 1;", 5);
        fault("o41 19;", 1);
        fault("o1 1;o1 100;?", 8);
        fault("o1 1;   zzz", 8);
        fault("o1 1;d0 0 1 0 0;o1 1;o12 99;", 25);
        fault("d9 9 9 9 9;d0 0 0 0 0;", 16);
    }

    // "-10 less FAULT: nothing changes."
    private static void faultLeavesAll() {
        String[] faults = {"o", "o41", "x", ";", "o1 1;o1 1;o1 1;o1 1;o1 1;o", "d5 5 5 5 5;d9 9 9 9 8;", "o1 1;?"};
        for (String text : faults) {
            OvenNoses x = Check.told("o10 9;o20 3;d9 0 30 0 20;d0 9 45 2 30;");
            OvenNoses twin = Check.told("o10 9;o20 3;d9 0 30 0 20;d0 9 45 2 30;");
            for (OvenNoses each : new OvenNoses[] {x, twin}) {
                each.follows(0);
                each.minutes(1);
                each.keep(1);
                each.shuts(1, 1);
                each.led(1, 0);
                each.mark(4, 1);
                Check.type(each, text);
            }
            Check.holds("quarter() of '" + text + "' is a fault", x.quarter() <= -10);
            Check.holds("quarter() of '" + text + "' again", x.quarter() <= -10);
            Check.holds("all is as ahead of '" + text + "'", View.ofAll(x).equals(View.ofAll(twin)));
        }
    }

    // "(Read anew: as told, MINUTE 0, all OUT, open, nothing LED or to be UNDONE, IMAGES are gone.)"
    private static void readsAnew() {
        OvenNoses x = Check.told("o10 9;o20 3;d9 0 30 0 20;d0 9 45 2 30;");
        Check.due("something LED", x.led(1, 0), 1);
        x.puts(0, 1);
        x.minutes(2);
        x.puts(1, 1);
        x.shuts(1, 1);
        x.shuts(0, 1);
        x.keep(0);
        x.keep(1);
        // More than can be undone: what stood at first is lost, and must be made anew.
        for (int i = 0; i < 12; i++) {
            x.minutes(1);
        }
        Check.type(x, "o10 9;o20 3;d9 0 30 0 20;d0 9 45 2 30;");
        Check.due("anew", x.quarter(), 4);
        OvenNoses fresh = Check.told("o10 9;o20 3;d9 0 30 0 20;d0 9 45 2 30;");
        Check.holds("read anew, it is as a new one", View.ofAll(x).equals(View.ofAll(fresh)));
        // Less than there was: nothing of the former may shine through.
        OvenNoses less = Check.told(ITEM_OVEN.repeat(5) + "d9 9 9 0 9;".repeat(6));
        for (int d = 0; d < 6; d++) {
            less.puts(d, 4);
        }
        less.shuts(4, 1);
        Check.type(less, "d1 1 1 0 0;o2 2;");
        Check.due("less", less.quarter(), 2);
        Check.due("OUT is one alone", less.now(1), 1);
        Check.due("SHUT is none", less.now(4), 0);
        Check.due("no second oven", less.oven(1, 0), -1000000);
        Check.due("no second dough", less.dough(1, 0), -1);
        Check.type(less, ITEM_OVEN.repeat(5) + "d9 9 9 0 9;".repeat(6));
        Check.due("more again", less.quarter(), 11);
        Check.due("all OUT", less.now(1), 63);
        Check.due("all open", less.now(4), 0);
        Check.due("nobody IN", less.oven(4, 2), 0);
    }

    // Promise 4: "THE TEXT tells all, and is empty then: how many ITEMS."
    private static void emptyText() {
        OvenNoses x = Check.told("o1 1;d1 1 1 1 1;");
        Check.due("the text is empty then", x.count(4), 0);
        Check.due("no items", x.quarter(), 0);
        Check.due("no ovens", x.count(0), 0);
        Check.due("no doughs", x.count(1), 0);
        Check.due("first byte again", x.type('o'), 1);
        Check.due("too early", x.quarter(), -11);
        Check.due("the text stays", x.count(4), 1);
        Check.type(x, "1 1;");
        Check.due("told to the end", x.quarter(), 1);
        Check.due("one oven", x.count(0), 1);
    }
}
