/**
 * What an object shows, as one text, so that two objects can be compared as wholes.
 * An object is good for 512 calls: five doughs and ten undoings cost some 350 of them.
 */
final class View {
    private View() {
    }

    /** All that can be asked without a change. */
    static String of(OvenNoses x) {
        StringBuilder all = new StringBuilder();
        int ovens = x.count(0);
        int doughs = x.count(1);
        for (int what = 0; what < 5; what++) {
            all.append(x.count(what)).append(',').append(x.now(what)).append(' ');
        }
        for (int o = 0; o < ovens; o++) {
            for (int what = 0; what < 5; what++) {
                all.append(x.oven(o, what)).append(' ');
            }
            for (int d = 0; d < doughs; d++) {
                all.append(x.smell(o, d)).append(' ');
            }
        }
        for (int d = 0; d < doughs; d++) {
            for (int what = 0; what < 8; what++) {
                all.append(x.dough(d, what)).append(' ');
            }
        }
        return all.append(x.vanilla()).append(' ').append(x.trace()).toString();
    }

    /** What lies beneath, too: all that may be undone, both images, and the text. It uses the object up. */
    static String ofAll(OvenNoses x) {
        StringBuilder all = new StringBuilder(of(x));
        undoAll(x, all);
        for (int image = 0; image < 2; image++) {
            all.append("\nimage ").append(image).append(": ").append(x.back(image));
            undoAll(x, all);
        }
        return all.append("\ntext: ").append(x.quarter()).append(' ').append(of(x)).toString();
    }

    private static void undoAll(OvenNoses x, StringBuilder all) {
        int doughs = x.count(1);
        int left = x.count(3);
        do {
            all.append("\n").append(left).append(" left: ").append(x.now(0)).append(' ').append(x.now(4));
            for (int d = 0; d < doughs; d++) {
                all.append(' ').append(x.dough(d, 5)).append(' ').append(x.dough(d, 6));
            }
            left = x.undo();
        } while (left >= 0);
    }
}
