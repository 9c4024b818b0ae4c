/** For each promise of the document: ordinary calls, its edges, and wrong calls. */
public final class PromiseTests {
    private static final int BAD = -1, STATE = -2, FULL = -3, NONE = -9, DONE = -5, NO = -1000000;
    private static final int LOW = Integer.MIN_VALUE, HIGH = Integer.MAX_VALUE;

    /** Ovens 10/0, 20/3, 8/-9; doughs (9,0) 30 0-20, (0,9) 45 2-30, (7,2) 60 5-40. */
    private static final String THREE = "o10 9;o20 12;o8 0;d9 0 30 0 20;d0 9 45 2 30;d7 2 60 5 40;";

    public static void main(String[] args) {
        newObject();
        type();
        clear();
        quarterReads();
        quarterFaults();
        quarterChangesAllOrNothing();
        oven();
        dough();
        smell();
        follows();
        puts();
        minutes();
        shuts();
        undo();
        now();
        when();
        moved();
        order();
        fire();
        odds();
        led();
        forget();
        vanilla();
        mark();
        keepAndBack();
        count();
        trace();
        Check.end();
    }

    private static void due(String what, long got, long want) {
        Check.due(what, got, want);
    }

    // Promise 1
    private static void newObject() {
        OvenNoses x = new OvenNoses();
        for (int what = 0; what < 5; what++) {
            due("1 count " + what, x.count(what), 0);
            due("1 now " + what, x.now(what), 0);
        }
        due("1 oven", x.oven(0, 0), NO);
        due("1 dough", x.dough(0, 0), BAD);
        due("1 smell", x.smell(0, 0), NO);
        due("1 follows", x.follows(0), BAD);
        due("1 puts", x.puts(0, 0), BAD);
        due("1 shuts", x.shuts(0, 1), BAD);
        due("1 undo", x.undo(), STATE);
        due("1 when", x.when(0), BAD);
        due("1 moved", x.moved(0), BAD);
        due("1 order", x.order(0, 0, -1), BAD);
        due("1 fire", x.fire(0, 1), BAD);
        due("1 odds", x.odds(0, 0, 5, 0), BAD);
        due("1 led", x.led(0, 0), BAD);
        due("1 forget", x.forget(), 0);
        due("1 vanilla", x.vanilla(), 32);
        due("1 mark", x.mark(0, 0), NO);
        due("1 back 0", x.back(0), STATE);
        due("1 back 1", x.back(1), STATE);
        due("1 clear", x.clear(), 0);
        due("1 trace", x.trace(), 0);
        due("1 minutes", x.minutes(5), 0);
        due("1 keep", x.keep(0), 5);
    }

    // Promise 2
    private static void type() {
        OvenNoses x = new OvenNoses();
        due("2 byte -1", x.type(-1), BAD);
        due("2 byte 256", x.type(256), BAD);
        due("2 byte low", x.type(LOW), BAD);
        due("2 byte high", x.type(HIGH), BAD);
        due("2 byte 0", x.type(0), 1);
        due("2 byte 255", x.type(255), 2);
        for (int n = 3; n <= 180; n++) {
            due("2 byte " + n, x.type(' '), n);
        }
        due("2 one too many", x.type(' '), FULL);
        due("2 BAD ahead of FULL", x.type(256), BAD);
        due("2 still 180", x.count(4), 180);
    }

    // Promise 3
    private static void clear() {
        OvenNoses x = new OvenNoses();
        Check.type(x, "o1 1;");
        due("3 had", x.clear(), 5);
        due("3 empty", x.clear(), 0);
        due("3 begins anew", x.type('o'), 1);
        x.clear();
        due("3 nothing to read", x.quarter(), 0);
        for (int n = 0; n < 180; n++) {
            x.type(' ');
        }
        due("3 full", x.clear(), 180);
        due("3 takes again", x.type(' '), 1);
    }

    private static void reads(String text, int answer) {
        OvenNoses x = new OvenNoses();
        Check.type(x, text);
        due("4 quarter of '" + text + "'", x.quarter(), answer);
        due("4 text of '" + text + "' behind it", x.count(4), answer >= 0 ? 0 : text.length());
    }

    // Promise 4
    private static void quarterReads() {
        reads("", 0);
        reads("   ", 0);
        reads("o0 0;", 1);
        reads("  o  40   18  ;  ", 1);
        reads("d0 0 1 0 0;", 1);
        reads("d 9 9 99 60 99 ;", 1);
        reads("d0 0 1 60 60;", 1);
        reads("d0 0 1 5 5;o1 1;", 2);
        reads("o1 1;o1 1;o1 1;o1 1;o1 1;", 5);
        reads("d1 1 1 1 1;d1 1 1 1 1;d1 1 1 1 1;d1 1 1 1 1;d1 1 1 1 1;d1 1 1 1 1;", 6);
        reads("d1 1 1 1 1;o1 1;d1 1 1 1 1;o1 1;", 4);
        OvenNoses x = Check.told("d1 2 3 4 5;o6 7;d8 9 10 11 12;");
        due("4 ovens", x.count(0), 1);
        due("4 doughs", x.count(1), 2);
        due("4 second dough's LATE", x.dough(1, 4), 12);
        due("4 oven's DRAW", x.oven(0, 1), -2);
        OvenNoses full = Check.told("o1 2;o3 4;o5 6;o7 8;o9 10;d1 1 1 1 1;d2 2 2 2 2;d3 3 3 3 3;d4 4 4 4 4;d5 5 5 5 5;d6 6 6 6 6;");
        for (int o = 0; o < 5; o++) {
            due("4 HEAT of " + o, full.oven(o, 0), 2 * o + 1);
            due("4 DRAW of " + o, full.oven(o, 1), 2 * o + 2 - 9);
        }
        for (int d = 0; d < 6; d++) {
            for (int what = 0; what < 5; what++) {
                due("4 dough " + d + ", " + what, full.dough(d, what), d + 1);
            }
        }
    }

    private static void quarterFaults() {
        reads("o41 0;", -11);
        reads("o0 19;", -13);
        reads("d10 0 1 0 0;", -11);
        reads("d0 10 1 0 0;", -13);
        reads("d0 0 0 0 0;", -15);
        reads("d0 0 100 0 0;", -15);
        reads("d0 0 1 61 61;", -17);
        reads("d0 0 1 5 4;", -19);
        reads("d0 0 1 0 100;", -19);
        reads("o00 1;", -11);
        reads("o01 1;", -11);
        reads("o1 00;", -13);
        reads("o100 1;", -11);
        reads("o99999999999999999999 1;", -11);
        reads("o4294967297 1;", -11);
        reads("oo0 0;", -10);
        reads("ox 0 0;", -10);
        reads("oa 0 0;", -10);
        reads("oz 0 0;", -10);
        reads("az", -10);
        reads("x;", -10);
        reads("  x", -12);
        reads("O1 1;", -10);
        reads("o-1 1;", -11);
        reads("o1,1;", -12);
        reads("o1\t1;", -12);
        reads("o1 1;\n", -15);
        reads("\u0000", -10);
        reads("\u00e9", -10);
        reads("o1 1;`", -15);
        reads("{", -10);
        reads("o/", -11);
        reads("o:", -11);
        reads("5;", -10);
        reads(";", -10);
        reads("o1 1;;", -15);
        reads("o1 1 1;", -15);
        reads("o1;", -12);
        reads("o;", -11);
        reads("o1 o;", -13);
        reads("o1 1o1 1;", -14);
        reads("d1 1 1 1;", -18);
        reads("d1 1 1 1 1 1;", -21);
        reads("o1 1;o1 1;o1 1;o1 1;o1 1;o1 1;", -35);
        reads("o1 1;o1 1;o1 1;o1 1;o1 1; o", -36);
        reads("d1 1 1 1 1;d1 1 1 1 1;d1 1 1 1 1;d1 1 1 1 1;d1 1 1 1 1;d1 1 1 1 1;d", -76);
        reads("o", -11);
        reads("o ", -12);
        reads("o1", -12);
        reads("o1 1", -14);
        reads("o1 1  ", -16);
        reads("d", -11);
        reads("d1 1 1 1 1", -20);
        reads("o1 1;o", -16);
        reads("o41", -11);
        reads("o1 19", -13);
        reads("o1 100", -13);
        reads("x 100 A", -10);
        reads("o1 1;A100 x", -15);
        reads("o100 1;x", -11);
    }

    private static void quarterChangesAllOrNothing() {
        OvenNoses x = Check.told(THREE);
        x.puts(0, 0);
        x.minutes(1);
        x.shuts(2, 1);
        x.keep(0);
        x.led(1, 0);
        x.mark(5, 0);
        Check.type(x, "o1 1;d1 1 1 0 0;o41");
        due("4 fault", x.quarter(), -27);
        due("4 text stays", x.count(4), 19);
        due("4 ovens stay", x.count(0), 3);
        due("4 doughs stay", x.count(1), 3);
        due("4 heat stays", x.oven(0, 0), 10);
        due("4 sweet stays", x.dough(0, 0), 9);
        due("4 places stay", x.dough(0, 5), 0);
        due("4 baked stays", x.dough(0, 6), 9);
        due("4 minute stays", x.now(0), 1);
        due("4 shut stays", x.now(4), 4);
        due("4 led stays", x.count(2), 1);
        due("4 undo stays", x.count(3), 3);
        due("4 image stays", x.back(0), 1);
        due("4 text again", x.clear(), 19);
        Check.type(x, "o30 9;d3 4 5 6 7;");
        due("4 anew", x.quarter(), 2);
        due("4 text empty", x.count(4), 0);
        due("4 ovens anew", x.count(0), 1);
        due("4 doughs anew", x.count(1), 1);
        due("4 heat anew", x.oven(0, 0), 30);
        due("4 nobody in", x.oven(0, 2), 0);
        due("4 out anew", x.dough(0, 5), NONE);
        due("4 baked anew", x.dough(0, 6), 0);
        due("4 minute anew", x.now(0), 0);
        due("4 open anew", x.now(4), 0);
        due("4 nothing led", x.count(2), 0);
        due("4 nothing undone", x.undo(), STATE);
        due("4 image 0 gone", x.back(0), STATE);
        due("4 image 1 gone", x.back(1), STATE);
        due("4 trace stays", x.trace(), 100001);
        due("4 empty text", x.quarter(), 0);
        due("4 no ovens", x.count(0), 0);
        due("4 no doughs", x.count(1), 0);
    }

    // Promise 5
    private static void oven() {
        OvenNoses x = Check.told(THREE);
        due("5 HEAT", x.oven(1, 0), 20);
        due("5 DRAW", x.oven(1, 1), 3);
        due("5 least DRAW", x.oven(2, 1), -9);
        due("5 greatest DRAW", Check.told("o0 18;").oven(0, 1), 9);
        due("5 nobody IN", x.oven(1, 2), 0);
        due("5 HOT of nobody", x.oven(1, 3), 20);
        due("5 open", x.oven(1, 4), 0);
        x.puts(0, 1);
        due("5 IN", x.oven(1, 2), 1);
        due("5 HOT of one", x.oven(1, 3), 18);
        x.shuts(1, 1);
        due("5 SHUT", x.oven(1, 4), 1);
        due("5 stays IN", x.oven(1, 2), 1);
        due("5 HOT of SHUT", x.oven(1, 3), 18);
        due("5 other is open", x.oven(0, 4), 0);
        x.minutes(5);
        due("5 out of it", x.oven(1, 2), 0);
        for (int wrong : new int[] {-1, 3, 5, LOW, HIGH}) {
            due("5 no oven " + wrong, x.oven(wrong, 0), NO);
        }
        for (int wrong : new int[] {-1, 5, LOW, HIGH}) {
            due("5 no what " + wrong, x.oven(0, wrong), NO);
        }
        OvenNoses cut = Check.told("o9 9;d1 1 9 0 9;d1 1 9 0 9;d1 1 9 0 9;");
        cut.puts(2, 0);
        due("5 9 by one, cut", cut.oven(0, 3), 8);
        cut.puts(0, 0);
        due("5 9 by two, cut", cut.oven(0, 3), 7);
        due("5 bits", cut.oven(0, 2), 5);
    }

    // Promise 6
    private static void dough() {
        OvenNoses x = Check.told(THREE);
        int[] second = {7, 2, 60, 5, 40, NONE, 0, 1};
        for (int what = 0; what < second.length; what++) {
            due("6 dough 2, " + what, x.dough(2, what), second[what]);
        }
        x.puts(0, 0);
        due("6 where", x.dough(0, 5), 0);
        due("6 BAKED at first", x.dough(0, 6), 0);
        due("6 no NOSE of one IN", x.dough(0, 7), NONE);
        x.minutes(1);
        due("6 BAKED", x.dough(0, 6), 9);
        x.minutes(3);
        due("6 DONE", x.dough(0, 5), DONE);
        due("6 BAKED and DONE", x.dough(0, 6), 36);
        due("6 no NOSE of one DONE", x.dough(0, 7), NONE);
        x.minutes(10);
        due("6 no more BAKED", x.dough(0, 6), 36);
        x.shuts(1, 1);
        due("6 NOSE past a SHUT one", x.dough(2, 7), 0);
        x.shuts(0, 1);
        due("6 NOSE to what draws least", x.dough(2, 7), 2);
        x.shuts(2, 1);
        due("6 none is open", x.dough(2, 7), NONE);
        for (int wrong : new int[] {-1, 3, 6, LOW, HIGH}) {
            due("6 no dough " + wrong, x.dough(wrong, 0), BAD);
        }
        for (int wrong : new int[] {-1, 8, LOW, HIGH}) {
            due("6 no what " + wrong, x.dough(0, wrong), BAD);
        }
        OvenNoses like = Check.told("o1 9;o1 10;o1 10;d1 1 1 0 0;");
        due("6 of like ones the lowest", like.dough(0, 7), 1);
        like.minutes(60);
        due("6 NOSE of one GONE SOUR", like.dough(0, 7), 1);
    }

    // Promise 7
    private static void smell() {
        OvenNoses x = Check.told(THREE);
        due("7 DRAW alone", x.smell(1, 0), 3);
        due("7 DRAW below 0", x.smell(2, 0), -9);
        x.puts(0, 1);
        due("7 sour for sweet", x.smell(1, 1), 3 - 81);
        due("7 both for sweet", x.smell(1, 2), 3 + 63 - 18);
        due("7 each one IN it", x.smell(1, 0), 3 + 81);
        due("7 other oven", x.smell(0, 1), 0);
        x.minutes(1);
        x.minutes(1);
        due("7 DONE smells no more", x.smell(1, 1), 3);
        x.puts(1, 0);
        due("7 sour for both", x.smell(0, 2), 18 - 63);
        x.shuts(0, 1);
        due("7 SMELL of a SHUT one", x.smell(0, 2), 18 - 63);
        x.shuts(0, 0);
        x.minutes(3);
        x.puts(2, 0);
        due("7 two IN", x.smell(0, 0), 0 - 81 + 45);
        due("7 no oven -1", x.smell(-1, 0), NO);
        due("7 no oven 3", x.smell(3, 0), NO);
        due("7 no dough -1", x.smell(0, -1), NO);
        due("7 no dough 3", x.smell(0, 3), NO);
        due("7 far", x.smell(HIGH, LOW), NO);
    }

    // Promise 8
    private static void follows() {
        OvenNoses x = Check.told(THREE);
        due("8 no dough -1", x.follows(-1), BAD);
        due("8 no dough 3", x.follows(3), BAD);
        due("8 far", x.follows(HIGH), BAD);
        due("8 not RISEN", x.follows(1), STATE);
        due("8 refused is no step", x.count(3), 0);
        due("8 goes", x.follows(0), 1);
        due("8 is IN", x.dough(0, 5), 1);
        due("8 is a step", x.count(3), 1);
        due("8 is IN already", x.follows(0), STATE);
        x.minutes(1);
        due("8 RISEN - 1", x.follows(1), STATE);
        x.minutes(1);
        due("8 0 is DONE", x.follows(0), STATE);
        due("8 RISEN", x.follows(1), 1);
        x.shuts(0, 1);
        x.shuts(1, 1);
        x.shuts(2, 1);
        x.minutes(3);
        due("8 no NOSE", x.follows(2), STATE);
        x.shuts(2, 0);
        x.minutes(35);
        due("8 at LATE", x.follows(2), 2);
        due("8 no minute goes by", x.now(0), 40);
        x.undo();
        x.minutes(1);
        due("8 GONE SOUR", x.follows(2), STATE);
        OvenNoses away = Check.told("o1 10;o1 9;d9 0 9 0 9;d0 9 9 0 9;d9 0 9 0 9;");
        due("8 first", away.follows(0), 0);
        due("8 driven away", away.follows(1), 1);
        due("8 drawn", away.follows(2), 0);
    }

    // Promise 9
    private static void puts() {
        OvenNoses x = Check.told(THREE);
        due("9 no dough", x.puts(3, 0), BAD);
        due("9 no dough -1", x.puts(-1, 0), BAD);
        due("9 no oven", x.puts(0, 3), BAD);
        due("9 no oven -1", x.puts(0, -1), BAD);
        due("9 BAD ahead of STATE", x.puts(1, 3), BAD);
        due("9 not RISEN", x.puts(1, 0), STATE);
        due("9 where NOSE does not lead", x.puts(0, 2), 1);
        due("9 there", x.oven(2, 2), 1);
        due("9 not OUT", x.puts(0, 1), STATE);
        x.minutes(2);
        x.shuts(2, 1);
        due("9 SHUT", x.puts(1, 2), STATE);
        x.shuts(2, 0);
        due("9 two IN", x.puts(1, 2), 2);
        due("9 steps", x.count(3), 5);
        x.minutes(39);
        due("9 GONE SOUR", x.puts(2, 0), STATE);
        x.undo();
        x.minutes(38);
        due("9 at LATE", x.puts(2, 0), 1);
        due("9 DONE", x.puts(0, 1), STATE);
        x.undo();
        due("9 OUT again", x.dough(2, 5), NONE);
    }

    // Promise 10
    private static void minutes() {
        OvenNoses x = Check.told("o10 9;o40 9;d1 1 9 0 9;d1 1 10 0 9;d1 1 33 0 9;d1 1 99 0 9;");
        for (int wrong : new int[] {0, -1, 61, LOW, HIGH}) {
            due("10 not " + wrong, x.minutes(wrong), BAD);
        }
        due("10 not a step", x.count(3), 0);
        x.puts(0, 0);
        x.puts(1, 0);
        x.puts(2, 1);
        due("10 HOT by how many", x.minutes(1), 1);
        due("10 8 of 9", x.dough(0, 6), 8);
        due("10 36 of 33", x.dough(2, 6), 36);
        due("10 a step", x.count(3), 4);
        due("10 both at once", x.minutes(1), 2);
        due("10 the one", x.dough(0, 6), 16);
        due("10 the other, as hot", x.dough(1, 6), 16);
        due("10 all DONE", x.now(2), 7);
        x.puts(3, 1);
        due("10 not in two", x.minutes(2), 0);
        due("10 MINUTE", x.now(0), 4);
        x.shuts(1, 1);
        due("10 bakes on in a SHUT one", x.minutes(1), 1);
        due("10 99 by 36", x.dough(3, 6), 108);
        OvenNoses hotter = Check.told("o10 9;d1 1 8 0 9;d1 1 16 0 9;d1 1 25 0 9;");
        hotter.puts(0, 0);
        hotter.puts(1, 0);
        hotter.puts(2, 0);
        due("10 hotter with fewer", hotter.minutes(4), 3);
        due("10 7 and 7", hotter.dough(0, 6), 14);
        due("10 7, 7 and 8", hotter.dough(1, 6), 22);
        due("10 7, 7, 8 and 9", hotter.dough(2, 6), 31);
        OvenNoses cold = Check.told("o1 9;d1 1 1 0 9;");
        cold.puts(0, 0);
        due("10 cold", cold.minutes(60), 0);
        due("10 not BAKED", cold.dough(0, 6), 0);
        OvenNoses late = new OvenNoses();
        for (int i = 0; i < 16; i++) {
            due("10 60 more", late.minutes(60), 0);
        }
        due("10 beyond 999", late.minutes(40), STATE);
        due("10 as it was", late.now(0), 960);
        due("10 up to 999", late.minutes(39), 0);
        due("10 at 999", late.now(0), 999);
        due("10 no more", late.minutes(1), STATE);
        due("10 BAD ahead of STATE", late.minutes(61), BAD);
    }

    // Promise 11
    private static void shuts() {
        OvenNoses x = Check.told(THREE);
        due("11 no oven 3", x.shuts(3, 1), BAD);
        due("11 no oven -1", x.shuts(-1, 1), BAD);
        due("11 neither", x.shuts(0, 2), BAD);
        due("11 nor", x.shuts(0, -1), BAD);
        due("11 BAD ahead of STATE", x.shuts(5, 0), BAD);
        due("11 is open", x.shuts(0, 0), STATE);
        due("11 not a step", x.count(3), 0);
        due("11 one", x.shuts(0, 1), 1);
        due("11 two", x.shuts(2, 1), 2);
        due("11 which", x.now(4), 5);
        due("11 is SHUT", x.shuts(2, 1), STATE);
        due("11 opened", x.shuts(0, 0), 1);
        due("11 the other", x.now(4), 4);
        due("11 steps", x.count(3), 3);
    }

    // Promise 12
    private static void undo() {
        OvenNoses x = Check.told(THREE);
        due("12 none", x.undo(), STATE);
        x.follows(0);
        x.minutes(1);
        x.shuts(0, 1);
        x.shuts(0, 0);
        x.puts(0, 0);
        due("12 four, the fifth was refused", x.count(3), 4);
        due("12 opened", x.undo(), 3);
        due("12 SHUT again", x.now(4), 1);
        due("12 shut", x.undo(), 2);
        due("12 open again", x.now(4), 0);
        due("12 BAKED ahead", x.dough(0, 6), 18);
        due("12 minutes", x.undo(), 1);
        due("12 BAKED then", x.dough(0, 6), 0);
        due("12 MINUTE then", x.now(0), 0);
        due("12 put", x.undo(), 0);
        due("12 OUT", x.dough(0, 5), NONE);
        due("12 no more", x.undo(), STATE);
        x.follows(0);
        x.minutes(60);
        due("12 DONE", x.now(2), 1);
        due("12 all minutes together", x.undo(), 1);
        due("12 not DONE", x.dough(0, 5), 1);
        OvenNoses many = new OvenNoses();
        for (int i = 0; i < 12; i++) {
            many.minutes(i + 1);
            due("12 known", many.count(3), Math.min(i + 1, 10));
        }
        due("12 minute 78", many.now(0), 78);
        for (int i = 9; i >= 0; i--) {
            due("12 back to " + i, many.undo(), i);
        }
        due("12 older ones are lost", many.now(0), 3);
        due("12 none is known", many.undo(), STATE);
        OvenNoses apart = Check.told(THREE);
        apart.minutes(1);
        apart.led(0, 1);
        apart.mark(0, 0);
        apart.keep(1);
        apart.type('o');
        due("12 what else there is", apart.undo(), 0);
        due("12 LED stays", apart.count(2), 1);
        due("12 trace stays", apart.trace(), 1);
        due("12 text stays", apart.count(4), 1);
        due("12 image stays", apart.back(1), 1);
    }

    // Promise 13
    private static void now() {
        OvenNoses x = Check.told(THREE);
        due("13 OUT", x.now(1), 7);
        x.follows(0);
        due("13 one less", x.now(1), 6);
        due("13 IN is not DONE", x.now(2), 0);
        x.minutes(30);
        due("13 MINUTE", x.now(0), 30);
        due("13 DONE", x.now(2), 1);
        due("13 DONE is not GONE SOUR", x.now(3), 0);
        x.minutes(1);
        due("13 GONE SOUR", x.now(3), 2);
        x.puts(2, 0);
        x.minutes(10);
        due("13 not who was IN", x.now(3), 2);
        due("13 OUT, GONE SOUR too", x.now(1), 2);
        x.shuts(1, 1);
        due("13 SHUT", x.now(4), 2);
        OvenNoses sour = Check.told("d1 1 1 0 3;d1 1 1 0 4;");
        sour.minutes(4);
        due("13 the first GONE SOUR, at LATE not yet", sour.now(3), 1);
        for (int wrong : new int[] {-1, 5, LOW, HIGH}) {
            due("13 no what " + wrong, x.now(wrong), BAD);
        }
    }

    // Promise 14
    private static void when() {
        OvenNoses x = Check.told("o10 9;o1 9;o2 9;d1 1 8 0 99;d1 1 16 0 99;d1 1 25 0 99;d1 1 99 0 99;d1 1 1 0 99;");
        due("14 no dough", x.when(5), BAD);
        due("14 no dough -1", x.when(-1), BAD);
        due("14 OUT", x.when(0), STATE);
        x.minutes(7);
        x.puts(0, 0);
        x.puts(1, 0);
        x.puts(2, 0);
        due("14 first", x.when(0), 9);
        due("14 second", x.when(1), 10);
        due("14 third", x.when(2), 11);
        due("14 nothing is changed", x.now(0), 7);
        due("14 nor BAKED", x.dough(2, 6), 0);
        due("14 nor steps", x.count(3), 4);
        x.shuts(0, 1);
        due("14 in a SHUT one", x.when(2), 11);
        x.puts(4, 1);
        due("14 never", x.when(4), NONE);
        x.puts(3, 2);
        due("14 a minute at a time", x.when(3), 106);
        x.minutes(2);
        due("14 DONE", x.when(0), STATE);
        due("14 goes on", x.when(2), 11);
        OvenNoses late = Check.told("o2 9;d1 1 99 0 99;");
        late.puts(0, 0);
        late.minutes(60);
        due("14 from where it is", late.when(0), 99);
    }

    // Promise 15
    private static void moved() {
        OvenNoses x = Check.told(THREE);
        due("15 no oven", x.moved(3), BAD);
        due("15 no oven -1", x.moved(-1), BAD);
        due("15 all that are OUT", x.moved(1), 7);
        due("15 nobody", x.moved(0), 0);
        x.follows(0);
        due("15 not who is IN", x.moved(1), 4);
        due("15 the sour one", x.moved(0), 2);
        x.shuts(1, 1);
        due("15 SHUT", x.moved(1), STATE);
        due("15 both here now", x.moved(0), 6);
        x.shuts(0, 1);
        x.minutes(60);
        due("15 or nowhere, GONE SOUR too", x.moved(2), 6);
        due("15 nothing is changed", x.now(4), 3);
    }

    // Promise 16
    private static void order() {
        OvenNoses x = Check.told("o10 9;o1 9;d1 1 18 0 9;d1 1 9 3 9;d1 1 27 0 1;");
        due("16 how many", x.order(0, 999, -1), 3);
        due("16 when", x.order(0, 999, -2), 6);
        due("16 GONE SOUR otherwise", x.order(0, 999, 0), 2);
        due("16 both ways as soon: the first", x.order(0, 999, 1), 0);
        due("16 last", x.order(0, 999, 2), 1);
        due("16 not so many", x.order(0, 999, 3), NONE);
        due("16 the fifth", x.order(0, 999, 5), NONE);
        due("16 by 6", x.order(0, 6, -1), 3);
        due("16 by 5", x.order(0, 5, -1), 2);
        due("16 soonest of two", x.order(0, 5, -2), 4);
        due("16 by 5, first", x.order(0, 5, 0), 0);
        due("16 by 5, second", x.order(0, 5, 1), 1);
        due("16 by 2", x.order(0, 2, -2), 2);
        due("16 by 1", x.order(0, 1, -1), 0);
        due("16 by 1, MINUTE", x.order(0, 1, -2), 0);
        due("16 by 1, NONE", x.order(0, 1, 0), NONE);
        due("16 cold", x.order(1, 999, -1), 0);
        x.puts(0, 0);
        due("16 as if nobody were IN, without who is", x.order(0, 999, -1), 2);
        due("16 then", x.order(0, 999, -2), 4);
        x.shuts(0, 1);
        due("16 as if it were open", x.order(0, 999, 0), 2);
        x.minutes(2);
        due("16 from THE MINUTE on", x.order(0, 999, -2), 4);
        due("16 2 is GONE SOUR", x.order(0, 999, 0), 1);
        x.minutes(8);
        due("16 all GONE SOUR", x.order(0, 999, -1), 0);
        due("16 THE MINUTE", x.order(0, 0, -2), 10);
        due("16 nothing is changed", x.count(3), 4);
        due("16 no oven", x.order(2, 0, -1), BAD);
        due("16 no oven -1", x.order(-1, 0, -1), BAD);
        due("16 t -1", x.order(0, -1, -1), BAD);
        due("16 t 1000", x.order(0, 1000, -1), BAD);
        due("16 i -3", x.order(0, 0, -3), BAD);
        due("16 i 6", x.order(0, 0, 6), BAD);
        due("16 far", x.order(0, HIGH, LOW), BAD);
        OvenNoses edge = Check.told("o10 9;d1 1 9 0 0;d1 1 9 1 1;d1 1 10 0 2;");
        due("16 at LATE just so", edge.order(0, 999, -1), 3);
        due("16 row of three", edge.order(0, 999, 2), 2);
        due("16 ends", edge.order(0, 999, -2), 4);
        OvenNoses slow = Check.told("o2 9;d1 1 99 60 99;d1 1 40 0 0;");
        due("16 by 1 a minute", slow.order(0, 999, -1), 2);
        due("16 waits till RISEN", slow.order(0, 999, -2), 159);
        due("16 one too late by a minute", slow.order(0, 158, -1), 1);
    }

    // Promise 17
    private static void fire() {
        OvenNoses x = Check.told("o0 0;d0 0 99 0 0;d0 0 1 0 0;d0 0 9 0 0;");
        due("17 above 40", x.fire(0, 1), 110);
        due("17 within 99", x.fire(0, 99), 2);
        due("17 within 98", x.fire(0, 98), 3);
        due("17 within 11", x.fire(0, 11), 10);
        due("17 within 10", x.fire(0, 10), 12);
        due("17 least NEED", x.fire(1, 1), 2);
        due("17 9 at once", x.fire(2, 1), 10);
        due("17 no dough", x.fire(3, 1), BAD);
        due("17 no dough -1", x.fire(-1, 1), BAD);
        due("17 n 0", x.fire(0, 0), BAD);
        due("17 n 100", x.fire(0, 100), BAD);
        due("17 far", x.fire(0, LOW), BAD);
        x.puts(0, 0);
        due("17 whoever it is", x.fire(0, 1), 110);
    }

    private static void fraction(String what, OvenNoses x, int[] call, int upper, int lower) {
        due("18 upper: " + what, x.odds(call[0], call[1], call[2], 0), upper);
        due("18 lower: " + what, x.odds(call[0], call[1], call[2], 1), lower);
    }

    // Promise 18
    private static void odds() {
        OvenNoses x = Check.told(THREE);
        fraction("first", x, new int[] {0, 1, 4}, 3, 5);
        fraction("second", x, new int[] {0, 0, 4}, 6, 25);
        fraction("third", x, new int[] {0, 2, 4}, 12, 125);
        fraction("no wind", x, new int[] {0, 1, 0}, 1, 1);
        fraction("no wind, second", x, new int[] {0, 0, 0}, 0, 1);
        fraction("all is blown away", x, new int[] {0, 1, 10}, 0, 1);
        fraction("in least terms", x, new int[] {0, 0, 5}, 1, 4);
        fraction("not to be cut", x, new int[] {0, 2, 3}, 63, 1000);
        x.shuts(1, 1);
        fraction("SHUT", x, new int[] {0, 1, 4}, 0, 1);
        fraction("first of two", x, new int[] {0, 0, 4}, 3, 5);
        x.follows(0);
        due("18 IN", x.odds(0, 0, 4, 0), STATE);
        fraction("the sour one", x, new int[] {1, 0, 1}, 9, 100);
        fraction("the sour one, away", x, new int[] {1, 2, 1}, 9, 10);
        x.minutes(4);
        due("18 DONE", x.odds(0, 0, 4, 0), STATE);
        due("18 no dough", x.odds(3, 0, 4, 0), BAD);
        due("18 no dough -1", x.odds(-1, 0, 4, 0), BAD);
        due("18 no oven", x.odds(1, 3, 4, 0), BAD);
        due("18 no oven -1", x.odds(1, -1, 4, 0), BAD);
        due("18 x -1", x.odds(1, 0, -1, 0), BAD);
        due("18 x 11", x.odds(1, 0, 11, 0), BAD);
        due("18 what 2", x.odds(1, 0, 4, 2), BAD);
        due("18 what -1", x.odds(1, 0, 4, -1), BAD);
        due("18 BAD ahead of STATE", x.odds(0, 0, 4, 2), BAD);
        OvenNoses like = Check.told("o0 9;o0 9;o0 9;o0 9;o0 9;d0 0 1 0 0;");
        fraction("of like ones the lowest", like, new int[] {0, 0, 9}, 1, 10);
        fraction("of like ones the last", like, new int[] {0, 4, 9}, 6561, 100000);
    }

    // Promise 19
    private static void led() {
        OvenNoses x = Check.told(THREE);
        due("19 no dough", x.led(3, 0), BAD);
        due("19 no dough -1", x.led(-1, 0), BAD);
        due("19 no oven", x.led(0, 3), BAD);
        due("19 no oven -1", x.led(0, -1), BAD);
        x.shuts(1, 1);
        due("19 one, to a SHUT one", x.led(0, 1), 1);
        x.puts(0, 0);
        due("19 IN", x.led(0, 1), STATE);
        for (int n = 2; n <= 6; n++) {
            due("19 like ones too", x.led(1, 1), n);
        }
        due("19 one too many", x.led(1, 1), FULL);
        due("19 STATE ahead of FULL", x.led(0, 1), STATE);
        due("19 BAD ahead of STATE", x.led(0, 3), BAD);
        due("19 six", x.count(2), 6);
        x.minutes(10);
        due("19 DONE", x.led(0, 1), STATE);
        due("19 no step", x.count(3), 3);
    }

    // Promise 20
    private static void forget() {
        OvenNoses x = Check.told(THREE);
        due("20 none was", x.forget(), 0);
        x.led(0, 1);
        x.led(1, 2);
        due("20 two were", x.forget(), 2);
        due("20 none is", x.count(2), 0);
        due("20 vanilla anywhere", x.vanilla(), 32 + 7);
        due("20 again from one", x.led(0, 0), 1);
    }

    // Promise 21
    private static void vanilla() {
        OvenNoses x = Check.told(THREE);
        due("21 nothing LED", x.vanilla(), 32 + 7);
        x.led(0, 1);
        due("21 there, or nowhere", x.vanilla(), 32 + 2);
        x.led(2, 1);
        due("21 both", x.vanilla(), 32 + 2);
        x.led(1, 1);
        due("21 the sour one would go", x.vanilla(), 32);
        x.forget();
        x.led(0, 2);
        due("21 only by vanilla", x.vanilla(), 4);
        x.shuts(0, 1);
        due("21 another SHUT", x.vanilla(), 4);
        x.shuts(2, 1);
        due("21 it is SHUT", x.vanilla(), 0);
        x.forget();
        x.led(0, 1);
        due("21 hidden in a SHUT one", x.vanilla(), 32 + 7);
        x.minutes(1);
        x.puts(0, 1);
        due("21 not OUT any more", x.vanilla(), 0);
        x.undo();
        due("21 OUT again", x.vanilla(), 32 + 7);
        x.shuts(1, 1);
        due("21 all SHUT", x.vanilla(), 0);
        OvenNoses five = Check.told("o0 0;o0 0;o0 0;o0 0;o0 0;d5 5 1 0 0;d1 0 1 0 0;");
        five.led(0, 0);
        due("21 as sour as sweet", five.vanilla(), 63);
        five.led(1, 4);
        due("21 in the last", five.vanilla(), 16);
        OvenNoses like = Check.told("o0 18;o0 9;d1 0 1 0 0;");
        like.led(0, 0);
        due("21 9 more are as many", like.vanilla(), 32 + 3);
    }

    // Promise 22
    private static void mark() {
        OvenNoses x = Check.told(THREE);
        x.minutes(5);
        x.puts(2, 1);
        x.minutes(1);
        due("22 DOUGH", x.mark(0, 2), 7);
        due("22 CAKE", x.mark(1, 2), 25);
        due("22 HERRING", x.mark(2, 2), 5);
        due("22 BRIDE", x.mark(3, 2), 50);
        due("22 WIDOW", x.mark(4, 2), 7);
        due("22 SNIFF", x.mark(5, 2), 13);
        due("22 HERRING below 0", x.mark(2, 1), -9);
        due("22 WIDOW below 0", x.mark(4, 1), -8);
        due("22 OUT", x.mark(1, 0), 9);
        for (int wrong : new int[] {-1, 6, LOW, HIGH}) {
            due("22 no kind " + wrong, x.mark(wrong, 0), NO);
        }
        for (int wrong : new int[] {-1, 3, LOW, HIGH}) {
            due("22 no dough " + wrong, x.mark(0, wrong), NO);
        }
        x.minutes(5);
        due("22 DONE", x.mark(1, 2), 7 + 72);
    }

    // Promises 23, 24
    private static void keepAndBack() {
        OvenNoses x = Check.told(THREE);
        for (int wrong : new int[] {-1, 2, LOW, HIGH}) {
            due("23 no image " + wrong, x.keep(wrong), BAD);
            due("24 no image " + wrong, x.back(wrong), BAD);
        }
        due("24 none was kept", x.back(0), STATE);
        x.minutes(3);
        x.puts(0, 0);
        x.minutes(2);
        x.shuts(1, 1);
        due("23 MINUTE", x.keep(0), 5);
        due("24 the other was not", x.back(1), STATE);
        due("23 no step", x.count(3), 4);
        x.undo();
        x.undo();
        x.shuts(2, 1);
        x.minutes(60);
        x.led(1, 0);
        x.mark(0, 0);
        x.type('x');
        due("23 later", x.keep(1), 63);
        due("24 MINUTE", x.back(0), 5);
        due("24 where", x.dough(0, 5), 0);
        due("24 BAKED", x.dough(0, 6), 18);
        due("24 SHUT", x.now(4), 2);
        due("24 steps", x.count(3), 4);
        due("24 LED is nothing of it", x.count(2), 1);
        due("24 nor is the trace", x.trace(), 1);
        due("24 nor the text", x.count(4), 1);
        due("24 undone behind it", x.undo(), 3);
        due("24 open", x.now(4), 0);
        due("24 undone behind that", x.undo(), 2);
        due("24 at 3", x.now(0), 3);
        due("24 the image is as it was", x.back(0), 5);
        due("24 steps again", x.count(3), 4);
        due("24 the other", x.back(1), 63);
        due("24 its steps", x.count(3), 4);
        due("24 its doors", x.now(4), 4);
        due("24 and back", x.undo(), 3);
        due("23 over it", x.keep(1), 3);
        x.minutes(1);
        due("24 the newer", x.back(1), 3);
    }

    // Promise 25
    private static void count() {
        OvenNoses x = Check.told("o1 1;o1 1;d1 1 1 0 9;");
        due("25 OVENS", x.count(0), 2);
        due("25 DOUGHS", x.count(1), 1);
        x.led(0, 0);
        due("25 LED", x.count(2), 1);
        x.minutes(1);
        x.puts(0, 0);
        x.shuts(0, 1);
        due("25 UNDONE", x.count(3), 3);
        x.type('a');
        x.type('b');
        due("25 bytes", x.count(4), 2);
        for (int wrong : new int[] {-1, 5, LOW, HIGH}) {
            due("25 no what " + wrong, x.count(wrong), BAD);
        }
    }

    // Promise 26
    private static void trace() {
        OvenNoses x = Check.told(THREE);
        due("26 at first", x.trace(), 0);
        long[] sums = {1, 11, 101, 1011, 10101, 100001};
        long sum = 0;
        for (int kind = 0; kind < sums.length; kind++) {
            x.mark(kind, 0);
            sum += sums[kind];
            due("26 kind " + kind, x.trace(), sum);
        }
        x.mark(6, 0);
        x.mark(-1, 0);
        x.mark(5, 3);
        due("26 refused", x.trace(), sum);
        x.dough(0, 0);
        x.smell(0, 0);
        due("26 mark alone", x.trace(), sum);
        OvenNoses much = Check.told("d1 1 1 0 0;");
        for (int i = 0; i < 400; i++) {
            much.mark(5, 0);
        }
        due("26 much", much.trace(), 40000400L);
    }
}
