/**
 * A quarter's ovens, the doughs that are drawn to them by their noses, and what
 * becomes of both by the minute. The document DOC.md tells every answer.
 */
public final class OvenNoses {
    public static final int BAD = -1, STATE = -2, FULL = -3, NONE = -9;
    public static final int NO = -1000000;

    private static final int OVENS_MOST = 5;
    private static final int DOUGHS_MOST = 6;
    private static final int LED_MOST = 6;
    private static final int MINUTE_MOST = 999;
    private static final int MINUTES_AT_ONCE = 60;
    private static final int WHEN_MOST = 200;
    private static final int FIRE_MOST = 99;
    private static final int IMAGES_MOST = 2;
    private static final int TENTHS = 10;
    private static final int COMMON_STEPS = 64;

    private static final int DONE = -5;
    private static final int NO_OVEN = -1;
    private static final int VANILLA_SWEET = 9;
    private static final int NOWHERE_BIT = 1 << OVENS_MOST;

    private static final int HEAT = 0, DRAW = 1, OVEN_NUMBERS = 2;
    private static final int SWEET = 0, SOUR = 1, NEED = 2, RISEN = 3, LATE = 4, DOUGH_NUMBERS = 5;
    private static final int DRAW_OFFSET = 9;

    private final Script script;
    private Told told;
    private Told draft;
    private final Course course;
    private final Course trial;
    private final Course imageZero;
    private final Course imageOne;
    private int keptImages;
    private final int[] ledDoughs;
    private final int[] ledOvens;
    private int ledCount;
    private final RowSearch rowSearch;
    private long traceSum;

    public OvenNoses() {
        script = new Script();
        told = new Told();
        draft = new Told();
        course = new Course();
        trial = new Course();
        imageZero = new Course();
        imageOne = new Course();
        ledDoughs = new int[LED_MOST];
        ledOvens = new int[LED_MOST];
        rowSearch = new RowSearch();
    }

    // ---- the quarter

    public int type(int c) {
        if (c < 0 || c > 255) {
            return BAD;
        }
        return script.add(c) ? script.length() : FULL;
    }

    public int clear() {
        int had = script.length();
        script.empty();
        return had;
    }

    public int quarter() {
        int items = script.read(draft);
        if (items < 0) {
            return items;
        }
        Told former = told;
        told = draft;
        draft = former;
        script.empty();
        course.begin();
        keptImages = 0;
        ledCount = 0;
        return items;
    }

    public int oven(int o, int what) {
        if (!told.hasOven(o)) {
            return NO;
        }
        switch (what) {
            case 0: return told.ofOven(o, HEAT);
            case 1: return told.ofOven(o, DRAW) - DRAW_OFFSET;
            case 2: return course.placedAt(told, o);
            case 3: return course.hot(told, o);
            case 4: return course.isShut(o) ? 1 : 0;
            default: return NO;
        }
    }

    public int dough(int d, int what) {
        if (!told.hasDough(d)) {
            return BAD;
        }
        switch (what) {
            case 0: return told.ofDough(d, SWEET);
            case 1: return told.ofDough(d, SOUR);
            case 2: return told.ofDough(d, NEED);
            case 3: return told.ofDough(d, RISEN);
            case 4: return told.ofDough(d, LATE);
            case 5: return course.place(d);
            case 6: return course.baked(d);
            case 7: return isOut(d) ? noseOf(d, NO_OVEN) : NONE;
            default: return BAD;
        }
    }

    public int smell(int o, int d) {
        if (!told.hasOven(o) || !told.hasDough(d)) {
            return NO;
        }
        return smellOf(o, d, NO_OVEN);
    }

    // ---- what is done

    public int follows(int d) {
        if (!told.hasDough(d)) {
            return BAD;
        }
        int o = noseOf(d, NO_OVEN);
        if (!mayGoIn(d) || o == NONE) {
            return STATE;
        }
        course.remember();
        course.putIn(d, o);
        return o;
    }

    public int puts(int d, int o) {
        if (!told.hasDough(d) || !told.hasOven(o)) {
            return BAD;
        }
        if (!mayGoIn(d) || course.isShut(o)) {
            return STATE;
        }
        course.remember();
        course.putIn(d, o);
        return Integer.bitCount(course.placedAt(told, o));
    }

    public int minutes(int n) {
        if (n < 1 || n > MINUTES_AT_ONCE) {
            return BAD;
        }
        if (course.minute() + n > MINUTE_MOST) {
            return STATE;
        }
        int doneAhead = Integer.bitCount(course.placedAt(told, DONE));
        course.remember();
        for (int i = 0; i < n; i++) {
            course.passMinute(told);
        }
        return Integer.bitCount(course.placedAt(told, DONE)) - doneAhead;
    }

    public int shuts(int o, int is) {
        if (!told.hasOven(o) || (is != 0 && is != 1)) {
            return BAD;
        }
        if (course.isShut(o) == (is == 1)) {
            return STATE;
        }
        course.remember();
        course.turnDoor(o);
        return Integer.bitCount(course.shutBits());
    }

    public int undo() {
        return course.takeBack() ? course.known() : STATE;
    }

    public int now(int what) {
        switch (what) {
            case 0: return course.minute();
            case 1: return course.placedAt(told, NONE);
            case 2: return course.placedAt(told, DONE);
            case 3: return outAndGoneSour();
            case 4: return course.shutBits();
            default: return BAD;
        }
    }

    // ---- what will be

    public int when(int d) {
        if (!told.hasDough(d)) {
            return BAD;
        }
        if (!told.hasOven(course.place(d))) {
            return STATE;
        }
        trial.copyNow(course);
        for (int i = 0; i < WHEN_MOST; i++) {
            trial.passMinute(told);
            if (trial.place(d) == DONE) {
                return trial.minute();
            }
        }
        return NONE;
    }

    public int moved(int o) {
        if (!told.hasOven(o)) {
            return BAD;
        }
        if (course.isShut(o)) {
            return STATE;
        }
        int bits = 0;
        for (int d = 0; d < told.doughs(); d++) {
            if (isOut(d) && noseOf(d, NO_OVEN) == o) {
                bits |= 1 << d;
            }
        }
        return bits;
    }

    public int order(int o, int t, int i) {
        if (!told.hasOven(o) || t < 0 || t > MINUTE_MOST || i < -2 || i >= DOUGHS_MOST) {
            return BAD;
        }
        rowSearch.find(told, course, o, t);
        if (i == -1) {
            return rowSearch.bestCount();
        }
        return i == -2 ? rowSearch.bestEnd() : rowSearch.bestAt(i);
    }

    public int fire(int d, int n) {
        if (!told.hasDough(d) || n < 1 || n > FIRE_MOST) {
            return BAD;
        }
        int aMinute = dividedUp(told.ofDough(d, NEED), n);
        return dividedUp(aMinute * TENTHS, TENTHS - 1);
    }

    public int odds(int d, int o, int x, int what) {
        if (!told.hasDough(d) || !told.hasOven(o)) {
            return BAD;
        }
        if (x < 0 || x > TENTHS || (what != 0 && what != 1)) {
            return BAD;
        }
        if (!isOut(d)) {
            return STATE;
        }
        int upper = course.isShut(o) ? 0 : TENTHS - x;
        int lower = TENTHS;
        for (int ahead = rivalsOf(o, d); ahead > 0; ahead--) {
            upper *= x;
            lower *= TENTHS;
        }
        int number = what == 0 ? upper : lower;
        int common = commonDivisor(lower, upper);
        return common > 0 ? number / common : number;
    }

    // ---- vanilla

    public int led(int d, int o) {
        if (!told.hasDough(d) || !told.hasOven(o)) {
            return BAD;
        }
        if (!isOut(d)) {
            return STATE;
        }
        if (ledCount >= LED_MOST) {
            return FULL;
        }
        ledDoughs[ledCount] = d;
        ledOvens[ledCount] = o;
        ledCount++;
        return ledCount;
    }

    public int forget() {
        int had = ledCount;
        ledCount = 0;
        return had;
    }

    public int vanilla() {
        int bits = allLedWith(NO_OVEN) ? NOWHERE_BIT : 0;
        for (int o = 0; o < told.ovens(); o++) {
            if (allLedWith(o)) {
                bits |= 1 << o;
            }
        }
        return bits;
    }

    // ---- kinds, images

    public int mark(int kind, int d) {
        if (!told.hasDough(d)) {
            return NO;
        }
        switch (kind) {
            case 0: return asDough(d);
            case 1: return asCake(d);
            case 2: return asHerring(d);
            case 3: return asBride(d);
            case 4: return asWidow(d);
            case 5: return asSniff(d);
            default: return NO;
        }
    }

    public int keep(int image) {
        if (image < 0 || image >= IMAGES_MOST) {
            return BAD;
        }
        imageCourse(image).copyAll(course);
        keptImages |= 1 << image;
        return course.minute();
    }

    public int back(int image) {
        if (image < 0 || image >= IMAGES_MOST) {
            return BAD;
        }
        if ((keptImages & (1 << image)) == 0) {
            return STATE;
        }
        course.copyAll(imageCourse(image));
        return course.minute();
    }

    public int count(int what) {
        switch (what) {
            case 0: return told.ovens();
            case 1: return told.doughs();
            case 2: return ledCount;
            case 3: return course.known();
            case 4: return script.length();
            default: return BAD;
        }
    }

    public long trace() {
        return traceSum;
    }

    // ---- what the calls share

    private boolean isOut(int d) {
        return course.place(d) == NONE;
    }

    private boolean mayGoIn(int d) {
        int minute = course.minute();
        return isOut(d) && minute >= told.ofDough(d, RISEN) && minute <= told.ofDough(d, LATE);
    }

    private int outAndGoneSour() {
        int bits = 0;
        for (int d = 0; d < told.doughs(); d++) {
            if (isOut(d) && course.minute() > told.ofDough(d, LATE)) {
                bits |= 1 << d;
            }
        }
        return bits;
    }

    private int smellOf(int o, int d, int vanillaOven) {
        int sum = told.ofOven(o, DRAW) - DRAW_OFFSET;
        for (int other = 0; other < told.doughs(); other++) {
            if (course.place(other) == o) {
                sum += liking(d, told.ofDough(other, SWEET), told.ofDough(other, SOUR));
            }
        }
        return vanillaOven == o ? sum + liking(d, VANILLA_SWEET, 0) : sum;
    }

    private int liking(int d, int sweet, int sour) {
        int ownSweet = told.ofDough(d, SWEET);
        int ownSour = told.ofDough(d, SOUR);
        return ownSweet * sweet + ownSour * sour - ownSweet * sour - ownSour * sweet;
    }

    private int noseOf(int d, int vanillaOven) {
        int best = NONE;
        int bestSmell = 0;
        for (int o = 0; o < told.ovens(); o++) {
            if (!course.isShut(o)) {
                int its = smellOf(o, d, vanillaOven);
                if (best == NONE || its > bestSmell) {
                    best = o;
                    bestSmell = its;
                }
            }
        }
        return best;
    }

    /** How many open ovens must be blown away before the nose comes to this one. */
    private int rivalsOf(int o, int d) {
        int its = smellOf(o, d, NO_OVEN);
        int rivals = 0;
        for (int other = 0; other < told.ovens(); other++) {
            if (other != o && !course.isShut(other)) {
                int theirs = smellOf(other, d, NO_OVEN);
                if (theirs > its || (theirs == its && other < o)) {
                    rivals++;
                }
            }
        }
        return rivals;
    }

    private boolean allLedWith(int vanillaOven) {
        for (int i = 0; i < ledCount; i++) {
            int d = ledDoughs[i];
            if (!isOut(d) || noseOf(d, vanillaOven) != ledOvens[i]) {
                return false;
            }
        }
        return true;
    }

    private Course imageCourse(int image) {
        return image == 0 ? imageZero : imageOne;
    }

    private static int dividedUp(int number, int divisor) {
        return divisor > 0 ? (number + divisor - 1) / divisor : 0;
    }

    private static int commonDivisor(int a, int b) {
        int divisor = a;
        int rest = b;
        for (int step = 0; step < COMMON_STEPS && rest > 0; step++) {
            int next = divisor % rest;
            divisor = rest;
            rest = next;
        }
        return divisor;
    }

    // ---- the kinds: each body adds its own number, for it was asked

    private int asDough(int d) {
        traceSum += 1;
        return told.ofDough(d, SWEET);
    }

    private int asCake(int d) {
        traceSum += 10;
        return asDough(d) + course.baked(d);
    }

    private int asHerring(int d) {
        traceSum += 100;
        return asDough(d) - told.ofDough(d, SOUR);
    }

    private int asBride(int d) {
        traceSum += 1000;
        return asCake(d) * 2;
    }

    private int asWidow(int d) {
        traceSum += 10000;
        return asHerring(d) + d;
    }

    private int asSniff(int d) {
        traceSum += 100000;
        return asDough(d) + course.minute();
    }

    /** The ovens and doughs that a text tells. */
    private static final class Told {
        private final int[] ovenNumbers;
        private final int[] doughNumbers;
        private int ovenCount;
        private int doughCount;

        Told() {
            ovenNumbers = new int[OVENS_MOST * OVEN_NUMBERS];
            doughNumbers = new int[DOUGHS_MOST * DOUGH_NUMBERS];
        }

        void forgetAll() {
            ovenCount = 0;
            doughCount = 0;
        }

        int ovens() {
            return ovenCount;
        }

        int doughs() {
            return doughCount;
        }

        boolean hasOven(int o) {
            return o >= 0 && o < ovenCount;
        }

        boolean hasDough(int d) {
            return d >= 0 && d < doughCount;
        }

        int ofOven(int o, int which) {
            int at = o * OVEN_NUMBERS + which;
            return hasOven(o) && at >= 0 && at < ovenNumbers.length ? ovenNumbers[at] : 0;
        }

        int ofDough(int d, int which) {
            int at = d * DOUGH_NUMBERS + which;
            return hasDough(d) && at >= 0 && at < doughNumbers.length ? doughNumbers[at] : 0;
        }

        boolean addOven() {
            if (ovenCount >= OVENS_MOST) {
                return false;
            }
            ovenCount++;
            return true;
        }

        boolean addDough() {
            if (doughCount >= DOUGHS_MOST) {
                return false;
            }
            doughCount++;
            return true;
        }

        void setOfLastOven(int which, int value) {
            int at = (ovenCount - 1) * OVEN_NUMBERS + which;
            if (at >= 0 && at < ovenNumbers.length) {
                ovenNumbers[at] = value;
            }
        }

        void setOfLastDough(int which, int value) {
            int at = (doughCount - 1) * DOUGH_NUMBERS + which;
            if (at >= 0 && at < doughNumbers.length) {
                doughNumbers[at] = value;
            }
        }
    }

    /** The text, and how it is read: token by token, as far as each can stand. */
    private static final class Script {
        private static final int TEXT_MOST = 180;
        private static final int END = 0, LETTERS = 1, NUMBER = 2, SEMICOLON = 3, WRONG = 4;
        private static final int NUMBER_MOST = 99;
        private static final int FAULT_BASE = -10;
        private static final int[] OVEN_MOSTS = {40, 18};
        private static final int[] DOUGH_LEASTS = {0, 0, 1, 0, 0};
        private static final int[] DOUGH_MOSTS = {9, 9, 99, 60, 99};

        private final int[] bytes;
        private int byteCount;
        private int place;
        private int token;
        private int tokenStart;
        /** A NUMBER's value; of LETTERS the letter, if it is a single one, else 0. */
        private int tokenValue;

        Script() {
            bytes = new int[TEXT_MOST];
        }

        boolean add(int c) {
            if (byteCount >= TEXT_MOST) {
                return false;
            }
            bytes[byteCount] = c;
            byteCount++;
            return true;
        }

        int length() {
            return byteCount;
        }

        void empty() {
            byteCount = 0;
        }

        /** How many items, or -10 less the fault; then what came into the draft is of no use. */
        int read(Told into) {
            place = 0;
            into.forgetAll();
            int items = 0;
            nextToken();
            while (token != END && items <= TEXT_MOST) {
                if (!readItem(into)) {
                    return FAULT_BASE - tokenStart;
                }
                items++;
            }
            return items;
        }

        private boolean readItem(Told into) {
            if (token != LETTERS) {
                return false;
            }
            boolean numbersStand;
            if (tokenValue == 'o') {
                numbersStand = into.addOven() && readOvenNumbers(into);
            } else if (tokenValue == 'd') {
                numbersStand = into.addDough() && readDoughNumbers(into);
            } else {
                numbersStand = false;
            }
            if (!numbersStand || token != SEMICOLON) {
                return false;
            }
            nextToken();
            return true;
        }

        /** Stops at the first token behind the numbers, or at the one that can't stand. */
        private boolean readOvenNumbers(Told into) {
            nextToken();
            for (int which = 0; which < OVEN_NUMBERS; which++) {
                if (!isNumberWithin(0, OVEN_MOSTS[which])) {
                    return false;
                }
                into.setOfLastOven(which, tokenValue);
                nextToken();
            }
            return true;
        }

        private boolean readDoughNumbers(Told into) {
            nextToken();
            for (int which = 0; which < DOUGH_NUMBERS; which++) {
                int least = which == LATE ? into.ofDough(into.doughs() - 1, RISEN) : DOUGH_LEASTS[which];
                if (!isNumberWithin(least, DOUGH_MOSTS[which])) {
                    return false;
                }
                into.setOfLastDough(which, tokenValue);
                nextToken();
            }
            return true;
        }

        private boolean isNumberWithin(int least, int most) {
            return token == NUMBER && tokenValue >= least && tokenValue <= most;
        }

        private void nextToken() {
            while (place < byteCount && bytes[place] == ' ') {
                place++;
            }
            tokenStart = place;
            tokenValue = 0;
            if (place >= byteCount) {
                token = END;
            } else if (isLetter(bytes[place])) {
                takeLetters();
            } else if (isDigit(bytes[place])) {
                takeNumber();
            } else {
                token = bytes[place] == ';' ? SEMICOLON : WRONG;
                place++;
            }
        }

        private void takeLetters() {
            token = LETTERS;
            while (place < byteCount && isLetter(bytes[place])) {
                tokenValue = place == tokenStart ? bytes[place] : 0;
                place++;
            }
        }

        private void takeNumber() {
            while (place < byteCount && isDigit(bytes[place])) {
                // Held just above what may be, so that no row of digits wraps around.
                tokenValue = Math.min(tokenValue * 10 + bytes[place] - '0', NUMBER_MOST + 1);
                place++;
            }
            boolean zeroAhead = place - tokenStart > 1 && bytes[tokenStart] == '0';
            token = zeroAhead || tokenValue > NUMBER_MOST ? WRONG : NUMBER;
        }

        private static boolean isLetter(int b) {
            return b >= 'a' && b <= 'z';
        }

        private static boolean isDigit(int b) {
            return b >= '0' && b <= '9';
        }
    }

    /**
     * NOW and what may be undone: rows of numbers, the oldest first, NOW the last.
     * All stands in one array, so that an image is a single copy of it.
     */
    private static final class Course {
        private static final int UNDO_MOST = 10;
        private static final int MINUTE = 0, SHUT = 1, PLACES = 2, BAKED = PLACES + DOUGHS_MOST;
        private static final int ROW = BAKED + DOUGHS_MOST;

        private final int[] rows;
        private int knownSteps;

        Course() {
            rows = new int[(UNDO_MOST + 1) * ROW];
            begin();
        }

        void begin() {
            knownSteps = 0;
            rows[MINUTE] = 0;
            rows[SHUT] = 0;
            for (int d = 0; d < DOUGHS_MOST; d++) {
                rows[PLACES + d] = NONE;
                rows[BAKED + d] = 0;
            }
        }

        void copyAll(Course other) {
            System.arraycopy(other.rows, 0, rows, 0, rows.length);
            knownSteps = other.knownSteps;
        }

        void copyNow(Course other) {
            System.arraycopy(other.rows, other.base(), rows, 0, ROW);
            knownSteps = 0;
        }

        /** Ahead of a change: NOW comes to what may be undone, the oldest is lost if need be. */
        void remember() {
            if (knownSteps < UNDO_MOST) {
                System.arraycopy(rows, base(), rows, base() + ROW, ROW);
                knownSteps++;
            } else {
                System.arraycopy(rows, ROW, rows, 0, UNDO_MOST * ROW);
            }
        }

        boolean takeBack() {
            if (knownSteps <= 0) {
                return false;
            }
            knownSteps--;
            return true;
        }

        int known() {
            return knownSteps;
        }

        int minute() {
            return rows[base() + MINUTE];
        }

        int shutBits() {
            return rows[base() + SHUT];
        }

        boolean isShut(int o) {
            return (shutBits() & (1 << o)) != 0;
        }

        void turnDoor(int o) {
            rows[base() + SHUT] ^= 1 << o;
        }

        /** An oven's number, NONE (out) or DONE. */
        int place(int d) {
            return isPlace(d) ? rows[base() + PLACES + d] : NONE;
        }

        int baked(int d) {
            return isPlace(d) ? rows[base() + BAKED + d] : 0;
        }

        void putIn(int d, int o) {
            if (isPlace(d)) {
                rows[base() + PLACES + d] = o;
                rows[base() + BAKED + d] = 0;
            }
        }

        int placedAt(Told told, int where) {
            int bits = 0;
            for (int d = 0; d < told.doughs(); d++) {
                if (place(d) == where) {
                    bits |= 1 << d;
                }
            }
            return bits;
        }

        int hot(Told told, int o) {
            int cooling = Integer.bitCount(placedAt(told, o));
            return told.ofOven(o, HEAT) * (TENTHS - cooling) / TENTHS;
        }

        /** All bake first and leave afterwards: heat is that of the minute's begin. */
        void passMinute(Told told) {
            rows[base() + MINUTE]++;
            for (int d = 0; d < told.doughs(); d++) {
                if (told.hasOven(place(d))) {
                    rows[base() + BAKED + d] += hot(told, place(d));
                }
            }
            for (int d = 0; d < told.doughs(); d++) {
                if (told.hasOven(place(d)) && baked(d) >= told.ofDough(d, NEED)) {
                    rows[base() + PLACES + d] = DONE;
                }
            }
        }

        private int base() {
            return knownSteps * ROW;
        }

        private static boolean isPlace(int d) {
            return d >= 0 && d < DOUGHS_MOST;
        }
    }

    /** Tries all rows of doughs through one oven, the first by numbers first. */
    private static final class RowSearch {
        private final int[] row;
        private final int[] best;
        private final int[] bakingTimes;
        private int bestLength;
        private int bestLastEnd;
        private int limit;

        RowSearch() {
            row = new int[DOUGHS_MOST];
            best = new int[DOUGHS_MOST];
            bakingTimes = new int[DOUGHS_MOST];
        }

        void find(Told told, Course course, int o, int t) {
            bestLength = 0;
            bestLastEnd = course.minute();
            limit = t;
            int aMinute = told.ofOven(o, HEAT) * (TENTHS - 1) / TENTHS;
            if (aMinute <= 0) {
                return;
            }
            for (int d = 0; d < told.doughs() && d < DOUGHS_MOST; d++) {
                bakingTimes[d] = dividedUp(told.ofDough(d, NEED), aMinute);
            }
            extend(told, course.placedAt(told, NONE), 0, course.minute());
        }

        int bestCount() {
            return bestLength;
        }

        int bestEnd() {
            return bestLastEnd;
        }

        int bestAt(int i) {
            return i >= 0 && i < bestLength && i < DOUGHS_MOST ? best[i] : NONE;
        }

        /** The row so far has this length and is done at free; left are doughs, as bits. */
        private void extend(Told told, int left, int length, int free) {
            weigh(length, free);
            if (length >= DOUGHS_MOST) {
                return;
            }
            for (int d = 0; d < DOUGHS_MOST; d++) {
                if ((left & (1 << d)) != 0) {
                    int start = Math.max(free, told.ofDough(d, RISEN));
                    int end = start + bakingTimes[d];
                    if (start <= told.ofDough(d, LATE) && end <= limit) {
                        row[length] = d;
                        extend(told, left & ~(1 << d), length + 1, end);
                    }
                }
            }
        }

        /** Rows come in the order of numbers: one that is only as good comes too late. */
        private void weigh(int length, int end) {
            if (length > bestLength || (length == bestLength && end < bestLastEnd)) {
                bestLength = length;
                bestLastEnd = end;
                System.arraycopy(row, 0, best, 0, length);
            }
        }
    }
}
