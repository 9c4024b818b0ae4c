/** Counts the answers that are not as due, and ends a test. */
final class Check {
    private static int wrong = 0;
    private static int asked = 0;

    private Check() {
    }

    static void due(String what, long got, long want) {
        asked++;
        if (got != want) {
            wrong++;
            System.out.println(what + " answered " + got + ", due is " + want);
        }
    }

    static void holds(String what, boolean is) {
        due(what, is ? 1 : 0, 1);
    }

    static int wrongSoFar() {
        return wrong;
    }

    /** Types a text, byte by byte; every byte must be taken. */
    static void type(OvenNoses x, String text) {
        int had = x.count(4);
        for (int i = 0; i < text.length(); i++) {
            due("type " + (int) text.charAt(i), x.type(text.charAt(i)), had + i + 1);
        }
    }

    /** A new object that was told a text without a fault. */
    static OvenNoses told(String text) {
        OvenNoses x = new OvenNoses();
        type(x, text);
        holds("quarter() reads: " + text, x.quarter() >= 0);
        return x;
    }

    static void end() {
        System.out.println(wrong == 0 ? asked + " answers are as due" : wrong + " of " + asked + " answers are not as due");
        if (wrong != 0) {
            System.exit(1);
        }
    }
}
