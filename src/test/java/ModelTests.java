import java.math.BigInteger;
import java.util.ArrayDeque;
import java.util.ArrayList;
import java.util.Arrays;
import java.util.Deque;
import java.util.List;
import java.util.Random;
import java.util.regex.Matcher;
import java.util.regex.Pattern;

/**
 * Rows of calls, right and wrong, on the class and on a second model of the document.
 * The model is written for plainness alone: it tries out what the class works out.
 */
public final class ModelTests {
    private static final int RUNS = 1500;
    /** An object is good for 512 calls, and the last step of a run may ask twice. */
    private static final int CALLS = 511;
    private static final int WRONG_ENOUGH = 20;

    public static void main(String[] args) {
        for (int seed = 0; seed < RUNS && Check.wrongSoFar() < WRONG_ENOUGH; seed++) {
            new Run(seed).go();
        }
        Check.end();
    }

    /** One object, its model, and a fixed row of calls that look random. */
    private static final class Run {
        final Random random;
        final int seed;
        final OvenNoses x = new OvenNoses();
        final Model model = new Model();
        int calls = 0;

        Run(int seed) {
            this.seed = seed;
            this.random = new Random(seed);
        }

        void go() {
            if (random.nextInt(10) > 0) {
                tell();
            }
            while (calls < CALLS && Check.wrongSoFar() < WRONG_ENOUGH) {
                if (random.nextInt(150) == 0) {
                    tell();
                } else {
                    step();
                }
            }
        }

        void due(String call, long got, long want) {
            calls++;
            Check.due("seed " + seed + ", call " + calls + ": " + call, got, want);
        }

        void tell() {
            due("clear", x.clear(), model.clear());
            String text = Texts.make(random);
            for (int i = 0; i < text.length() && calls < CALLS; i++) {
                due("type", x.type(text.charAt(i)), model.type(text.charAt(i)));
            }
            due("quarter of '" + text + "'", x.quarter(), model.quarter());
        }

        /** Mostly a number below n, now and then one beside, or far from it. */
        int pick(int n) {
            int luck = random.nextInt(60);
            if (luck == 0) {
                return -1;
            }
            if (luck == 1) {
                return n;
            }
            if (luck == 2) {
                return random.nextInt();
            }
            return n <= 0 ? 0 : random.nextInt(n);
        }

        int oven() {
            return pick(model.ovens.size());
        }

        int dough() {
            return pick(model.doughs.size());
        }

        void step() {
            switch (random.nextInt(12)) {
                case 0: case 1: case 2: change(); break;
                case 3: case 4: case 5: look(); break;
                case 6: case 7: case 8: foresee(); break;
                case 9: vanilla(); break;
                case 10: kinds(); break;
                default: images(); break;
            }
        }

        void change() {
            int d = dough();
            int o = oven();
            switch (random.nextInt(7)) {
                case 0: case 1: due("follows " + d, x.follows(d), model.follows(d)); break;
                case 2: due("puts " + d + " " + o, x.puts(d, o), model.puts(d, o)); break;
                case 3: case 4: {
                    int n = random.nextInt(12) == 0 ? pick(62) : 1 + random.nextInt(3);
                    due("minutes " + n, x.minutes(n), model.minutes(n));
                    break;
                }
                case 5: {
                    int is = random.nextInt(3) == 0 ? pick(2) : 0;
                    due("shuts " + o + " " + is, x.shuts(o, is), model.shuts(o, is));
                    break;
                }
                default: due("undo", x.undo(), model.undo()); break;
            }
        }

        void look() {
            int d = dough();
            int o = oven();
            int what = pick(8);
            switch (random.nextInt(5)) {
                case 0: due("oven " + o + " " + what, x.oven(o, what), model.oven(o, what)); break;
                case 1: due("dough " + d + " " + what, x.dough(d, what), model.dough(d, what)); break;
                case 2: due("smell " + o + " " + d, x.smell(o, d), model.smell(o, d)); break;
                case 3: due("now " + what, x.now(what), model.now(what)); break;
                default: due("count " + what, x.count(what), model.count(what)); break;
            }
        }

        void foresee() {
            int d = dough();
            int o = oven();
            switch (random.nextInt(5)) {
                case 0: due("when " + d, x.when(d), model.when(d)); break;
                case 1: due("moved " + o, x.moved(o), model.moved(o)); break;
                case 2: {
                    int t = random.nextInt(3) == 0 ? pick(1000) : model.state.minute + random.nextInt(20);
                    int i = pick(8) - 2;
                    due("order " + o + " " + t + " " + i, x.order(o, t, i), model.order(o, t, i));
                    break;
                }
                case 3: {
                    int n = 1 + pick(99);
                    due("fire " + d + " " + n, x.fire(d, n), model.fire(d, n));
                    break;
                }
                default: {
                    int by = pick(11);
                    int what = pick(2);
                    due("odds " + d + " " + o + " " + by + " " + what, x.odds(d, o, by, what), model.odds(d, o, by, what));
                    break;
                }
            }
        }

        void vanilla() {
            int d = dough();
            int o = random.nextBoolean() ? model.dough(d, 7) : oven();
            switch (random.nextInt(8)) {
                case 0: due("forget", x.forget(), model.forget()); break;
                case 1: case 2: case 3: due("led " + d + " " + o, x.led(d, o), model.led(d, o)); break;
                default: due("vanilla", x.vanilla(), model.vanilla()); break;
            }
        }

        void kinds() {
            int kind = pick(6);
            int d = dough();
            due("mark " + kind + " " + d, x.mark(kind, d), model.mark(kind, d));
            due("trace", x.trace(), model.trace);
        }

        void images() {
            int image = pick(2);
            switch (random.nextInt(4)) {
                case 0: due("keep " + image, x.keep(image), model.keep(image)); break;
                case 1: due("back " + image, x.back(image), model.back(image)); break;
                default: due("count 3", x.count(3), model.count(3)); break;
            }
        }
    }

    /** Texts, most of which can stand, some of which nearly can. */
    private static final class Texts {
        static String make(Random random) {
            List<String> items = new ArrayList<>();
            int ovens = random.nextInt(20) == 0 ? 6 : random.nextInt(6);
            for (int i = 0; i < ovens; i++) {
                items.add("o" + gap(random) + oneOf(random, 41) + " " + (random.nextBoolean() ? 9 : random.nextInt(19)));
            }
            int doughs = random.nextInt(20) == 0 ? 7 : random.nextInt(7);
            for (int i = 0; i < doughs; i++) {
                int risen = random.nextInt(3) > 0 ? random.nextInt(6) : random.nextInt(61);
                int late = Math.min(99, risen + (random.nextBoolean() ? random.nextInt(10) : random.nextInt(90)));
                items.add("d" + gap(random) + random.nextInt(10) + " " + random.nextInt(10) + " "
                        + (1 + oneOf(random, 99)) + " " + risen + " " + late);
            }
            java.util.Collections.shuffle(items, random);
            StringBuilder text = new StringBuilder();
            for (String item : items) {
                text.append(item).append(gap(random)).append(';').append(gap(random));
            }
            if (random.nextInt(3) == 0) {
                spoil(text, random);
            }
            return text.toString();
        }

        static String gap(Random random) {
            return random.nextInt(8) == 0 ? " " : "";
        }

        static int oneOf(Random random, int n) {
            return random.nextInt(4) == 0 ? random.nextInt(3) : random.nextInt(n);
        }

        static void spoil(StringBuilder text, Random random) {
            if (text.length() == 0) {
                return;
            }
            int at = random.nextInt(text.length());
            String signs = "0123456789 ;odxz-A`{/:\n";
            char sign = random.nextInt(10) == 0 ? (char) random.nextInt(256) : signs.charAt(random.nextInt(signs.length()));
            switch (random.nextInt(4)) {
                case 0: text.deleteCharAt(at); break;
                case 1: text.insert(at, sign); break;
                case 2: text.setLength(at); break;
                default: text.setCharAt(at, sign); break;
            }
        }
    }

    private record Oven(int heat, int draw) {
    }

    private record Dough(int sweet, int sour, int need, int risen, int late) {
    }

    private record Led(int d, int o) {
    }

    /** The kinds as classes over one another, just as the document tells them. */
    private static class DoughKind {
        final Model model;
        final int d;

        DoughKind(Model model, int d) {
            this.model = model;
            this.d = d;
        }

        int mark() {
            model.trace += 1;
            return model.doughs.get(d).sweet();
        }
    }

    private static class Cake extends DoughKind {
        Cake(Model model, int d) {
            super(model, d);
        }

        @Override
        int mark() {
            model.trace += 10;
            return super.mark() + model.state.baked[d];
        }
    }

    private static class Herring extends DoughKind {
        Herring(Model model, int d) {
            super(model, d);
        }

        @Override
        int mark() {
            model.trace += 100;
            return super.mark() - model.doughs.get(d).sour();
        }
    }

    private static final class Bride extends Cake {
        Bride(Model model, int d) {
            super(model, d);
        }

        @Override
        int mark() {
            model.trace += 1000;
            return super.mark() * 2;
        }
    }

    private static final class Widow extends Herring {
        Widow(Model model, int d) {
            super(model, d);
        }

        @Override
        int mark() {
            model.trace += 10000;
            return super.mark() + d;
        }
    }

    private static final class Sniff extends DoughKind {
        Sniff(Model model, int d) {
            super(model, d);
        }

        @Override
        int mark() {
            model.trace += 100000;
            return super.mark() + model.state.minute;
        }
    }

    private static final class State {
        int minute = 0;
        int[] where = new int[6];
        int[] baked = new int[6];
        boolean[] shut = new boolean[5];

        State() {
            Arrays.fill(where, -9);
        }

        State copy() {
            State c = new State();
            c.minute = minute;
            c.where = where.clone();
            c.baked = baked.clone();
            c.shut = shut.clone();
            return c;
        }
    }

    private static final class Image {
        State state;
        List<State> undo;
    }

    private static final class Model {
        StringBuilder text = new StringBuilder();
        List<Oven> ovens = new ArrayList<>();
        List<Dough> doughs = new ArrayList<>();
        State state = new State();
        Deque<State> undo = new ArrayDeque<>();
        List<Led> leds = new ArrayList<>();
        Image[] images = new Image[2];
        long trace = 0;

        boolean noOven(int o) {
            return o < 0 || o >= ovens.size();
        }

        boolean noDough(int d) {
            return d < 0 || d >= doughs.size();
        }

        int type(int c) {
            if (c < 0 || c > 255) {
                return -1;
            }
            if (text.length() == 180) {
                return -3;
            }
            text.append((char) c);
            return text.length();
        }

        int clear() {
            int had = text.length();
            text.setLength(0);
            return had;
        }

        int quarter() {
            List<Oven> newOvens = new ArrayList<>();
            List<Dough> newDoughs = new ArrayList<>();
            int fault = read(newOvens, newDoughs);
            if (fault >= 0) {
                return -10 - fault;
            }
            ovens = newOvens;
            doughs = newDoughs;
            text.setLength(0);
            state = new State();
            undo.clear();
            leds.clear();
            images = new Image[2];
            return ovens.size() + doughs.size();
        }

        /** The fault's place, or -1. The item so far is a text of its own, which must begin a right one. */
        int read(List<Oven> newOvens, List<Dough> newDoughs) {
            Matcher m = Pattern.compile(" *([a-z]+|[0-9]+|;|[^ ])", Pattern.DOTALL).matcher(text);
            List<String> item = new ArrayList<>();
            while (m.find()) {
                item.add(m.group(1));
                if (!mayBegin(item, newOvens.size(), newDoughs.size())) {
                    return m.start(1);
                }
                if (m.group(1).equals(";")) {
                    int[] n = item.subList(1, item.size() - 1).stream().mapToInt(Integer::parseInt).toArray();
                    if (item.get(0).equals("o")) {
                        newOvens.add(new Oven(n[0], n[1] - 9));
                    } else {
                        newDoughs.add(new Dough(n[0], n[1], n[2], n[3], n[4]));
                    }
                    item.clear();
                }
            }
            return item.isEmpty() ? -1 : text.length();
        }

        boolean mayBegin(List<String> item, int ovenCount, int doughCount) {
            boolean isOven = item.get(0).equals("o") && ovenCount < 5;
            boolean isDough = item.get(0).equals("d") && doughCount < 6;
            if (!isOven && !isDough) {
                return false;
            }
            int[] most = isOven ? new int[] {40, 18} : new int[] {9, 9, 99, 60, 99};
            for (int i = 1; i < item.size(); i++) {
                String token = item.get(i);
                if (i > most.length) {
                    return i == most.length + 1 && token.equals(";");
                }
                if (!token.matches("0|[1-9][0-9]?") || Integer.parseInt(token) > most[i - 1]) {
                    return false;
                }
                if (isDough && i == 3 && token.equals("0")) {
                    return false;
                }
                if (isDough && i == 5 && Integer.parseInt(token) < Integer.parseInt(item.get(4))) {
                    return false;
                }
            }
            return true;
        }

        int oven(int o, int what) {
            if (noOven(o) || what < 0 || what > 4) {
                return -1000000;
            }
            int[] all = {ovens.get(o).heat(), ovens.get(o).draw(), bits(state, o), hot(state, o), state.shut[o] ? 1 : 0};
            return all[what];
        }

        int dough(int d, int what) {
            if (noDough(d) || what < 0 || what > 7) {
                return -1;
            }
            Dough it = doughs.get(d);
            int nose = state.where[d] == -9 ? nose(d, state.shut, -1) : -9;
            int[] all = {it.sweet(), it.sour(), it.need(), it.risen(), it.late(), state.where[d], state.baked[d], nose};
            return all[what];
        }

        int bits(State s, int where) {
            int bits = 0;
            for (int d = 0; d < doughs.size(); d++) {
                bits += s.where[d] == where ? 1 << d : 0;
            }
            return bits;
        }

        int hot(State s, int o) {
            return ovens.get(o).heat() * (10 - Integer.bitCount(bits(s, o))) / 10;
        }

        int smell(int o, int d) {
            return noOven(o) || noDough(d) ? -1000000 : smell(o, d, -1);
        }

        int smell(int o, int d, int hidden) {
            List<Dough> in = new ArrayList<>();
            for (int e = 0; e < doughs.size(); e++) {
                if (state.where[e] == o) {
                    in.add(doughs.get(e));
                }
            }
            if (hidden == o) {
                in.add(new Dough(9, 0, 1, 0, 0));
            }
            int bitter = doughs.get(d).sweet() - doughs.get(d).sour();
            return ovens.get(o).draw() + in.stream().mapToInt(e -> bitter * (e.sweet() - e.sour())).sum();
        }

        int nose(int d, boolean[] shut, int hidden) {
            int best = -9;
            for (int o = ovens.size() - 1; o >= 0; o--) {
                if (!shut[o] && (best == -9 || smell(o, d, hidden) >= smell(best, d, hidden))) {
                    best = o;
                }
            }
            return best;
        }

        void step() {
            undo.addLast(state.copy());
            if (undo.size() > 10) {
                undo.removeFirst();
            }
        }

        boolean goesIn(int d) {
            Dough it = doughs.get(d);
            return state.where[d] == -9 && it.risen() <= state.minute && state.minute <= it.late();
        }

        int follows(int d) {
            if (noDough(d)) {
                return -1;
            }
            int o = nose(d, state.shut, -1);
            if (!goesIn(d) || o == -9) {
                return -2;
            }
            step();
            state.where[d] = o;
            return o;
        }

        int puts(int d, int o) {
            if (noDough(d) || noOven(o)) {
                return -1;
            }
            if (!goesIn(d) || state.shut[o]) {
                return -2;
            }
            step();
            state.where[d] = o;
            return Integer.bitCount(bits(state, o));
        }

        void pass(State s) {
            int[] hot = new int[ovens.size()];
            for (int o = 0; o < hot.length; o++) {
                hot[o] = hot(s, o);
            }
            s.minute++;
            for (int d = 0; d < doughs.size(); d++) {
                if (s.where[d] >= 0) {
                    s.baked[d] += hot[s.where[d]];
                    if (s.baked[d] >= doughs.get(d).need()) {
                        s.where[d] = -5;
                    }
                }
            }
        }

        int minutes(int n) {
            if (n < 1 || n > 60) {
                return -1;
            }
            if (state.minute + n > 999) {
                return -2;
            }
            step();
            int ahead = Integer.bitCount(bits(state, -5));
            for (int i = 0; i < n; i++) {
                pass(state);
            }
            return Integer.bitCount(bits(state, -5)) - ahead;
        }

        int shuts(int o, int is) {
            if (noOven(o) || is < 0 || is > 1) {
                return -1;
            }
            if (state.shut[o] == (is == 1)) {
                return -2;
            }
            step();
            state.shut[o] = is == 1;
            return Integer.bitCount(now(4));
        }

        int undo() {
            if (undo.isEmpty()) {
                return -2;
            }
            state = undo.removeLast();
            return undo.size();
        }

        int now(int what) {
            int sour = 0;
            for (int d = 0; d < doughs.size(); d++) {
                sour += state.where[d] == -9 && state.minute > doughs.get(d).late() ? 1 << d : 0;
            }
            int shut = 0;
            for (int o = 0; o < 5; o++) {
                shut += state.shut[o] ? 1 << o : 0;
            }
            int[] all = {state.minute, bits(state, -9), bits(state, -5), sour, shut};
            return what < 0 || what > 4 ? -1 : all[what];
        }

        int when(int d) {
            if (noDough(d)) {
                return -1;
            }
            if (state.where[d] < 0) {
                return -2;
            }
            State s = state.copy();
            for (int i = 0; i < 200; i++) {
                pass(s);
                if (s.where[d] == -5) {
                    return s.minute;
                }
            }
            return -9;
        }

        int moved(int o) {
            if (noOven(o)) {
                return -1;
            }
            if (state.shut[o]) {
                return -2;
            }
            boolean[] were = state.shut.clone();
            were[o] = true;
            int bits = 0;
            for (int d = 0; d < doughs.size(); d++) {
                boolean goes = state.where[d] == -9 && nose(d, state.shut, -1) != nose(d, were, -1);
                bits += goes ? 1 << d : 0;
            }
            return bits;
        }

        int order(int o, int t, int i) {
            if (noOven(o) || t < 0 || t > 999 || i < -2 || i > 5) {
                return -1;
            }
            List<List<Integer>> rows = new ArrayList<>();
            allRows(new ArrayList<>(), rows);
            List<Integer> best = List.of();
            int bestEnd = state.minute;
            for (List<Integer> row : rows) {
                int end = endOf(row, o, t);
                boolean sooner = end < bestEnd || (end == bestEnd && isAhead(row, best));
                if (end >= 0 && (row.size() > best.size() || (row.size() == best.size() && sooner))) {
                    best = row;
                    bestEnd = end;
                }
            }
            if (i < 0) {
                return i == -1 ? best.size() : bestEnd;
            }
            return i < best.size() ? best.get(i) : -9;
        }

        void allRows(List<Integer> row, List<List<Integer>> rows) {
            if (!row.isEmpty()) {
                rows.add(new ArrayList<>(row));
            }
            for (int d = doughs.size() - 1; d >= 0; d--) {
                if (state.where[d] == -9 && !row.contains(d)) {
                    row.add(d);
                    allRows(row, rows);
                    row.remove(row.size() - 1);
                }
            }
        }

        boolean isAhead(List<Integer> row, List<Integer> other) {
            for (int i = 0; i < row.size() && i < other.size(); i++) {
                if (!row.get(i).equals(other.get(i))) {
                    return row.get(i) < other.get(i);
                }
            }
            return false;
        }

        /** Minute by minute: when a row is through, or -1, if it does not come through so. */
        int endOf(List<Integer> row, int o, int t) {
            int minute = state.minute;
            for (int d : row) {
                Dough it = doughs.get(d);
                while (minute < it.risen()) {
                    minute++;
                }
                if (minute > it.late()) {
                    return -1;
                }
                for (int baked = 0; baked < it.need(); baked += ovens.get(o).heat() * 9 / 10) {
                    minute++;
                    if (minute > t) {
                        return -1;
                    }
                }
            }
            return minute;
        }

        int fire(int d, int n) {
            if (noDough(d) || n < 1 || n > 99) {
                return -1;
            }
            int heat = 0;
            while (heat * 9 / 10 * n < doughs.get(d).need()) {
                heat++;
            }
            return heat;
        }

        int odds(int d, int o, int x, int what) {
            if (noDough(d) || noOven(o) || x < 0 || x > 10 || what < 0 || what > 1) {
                return -1;
            }
            if (state.where[d] != -9) {
                return -2;
            }
            BigInteger upper = BigInteger.ZERO;
            for (int blown = 0; blown < 1 << ovens.size(); blown++) {
                boolean[] shut = state.shut.clone();
                BigInteger weight = BigInteger.ONE;
                for (int p = 0; p < ovens.size(); p++) {
                    boolean away = (blown >> p & 1) == 1;
                    weight = weight.multiply(BigInteger.valueOf(away ? x : 10 - x));
                    shut[p] |= away;
                }
                if (nose(d, shut, -1) == o) {
                    upper = upper.add(weight);
                }
            }
            BigInteger lower = BigInteger.TEN.pow(ovens.size());
            return (what == 0 ? upper : lower).divide(upper.gcd(lower)).intValueExact();
        }

        int led(int d, int o) {
            if (noDough(d) || noOven(o)) {
                return -1;
            }
            if (state.where[d] != -9) {
                return -2;
            }
            if (leds.size() == 6) {
                return -3;
            }
            leds.add(new Led(d, o));
            return leds.size();
        }

        int forget() {
            int had = leds.size();
            leds.clear();
            return had;
        }

        int vanilla() {
            int bits = 0;
            for (int hidden = -1; hidden < ovens.size(); hidden++) {
                int at = hidden;
                boolean so = leds.stream().allMatch(l -> nose(l.d(), state.shut, at) == l.o());
                bits += so ? 1 << (hidden < 0 ? 5 : hidden) : 0;
            }
            return leds.stream().allMatch(l -> state.where[l.d()] == -9) ? bits : 0;
        }

        int mark(int kind, int d) {
            if (noDough(d) || kind < 0 || kind > 5) {
                return -1000000;
            }
            DoughKind[] kinds = {new DoughKind(this, d), new Cake(this, d), new Herring(this, d),
                new Bride(this, d), new Widow(this, d), new Sniff(this, d)};
            return kinds[kind].mark();
        }

        int keep(int image) {
            if (image < 0 || image > 1) {
                return -1;
            }
            images[image] = new Image();
            images[image].state = state.copy();
            images[image].undo = new ArrayList<>();
            undo.forEach(s -> images[image].undo.add(s.copy()));
            return state.minute;
        }

        int back(int image) {
            if (image < 0 || image > 1) {
                return -1;
            }
            if (images[image] == null) {
                return -2;
            }
            state = images[image].state.copy();
            undo.clear();
            images[image].undo.forEach(s -> undo.addLast(s.copy()));
            return state.minute;
        }

        int count(int what) {
            int[] all = {ovens.size(), doughs.size(), leds.size(), undo.size(), text.length()};
            return what < 0 || what > 4 ? -1 : all[what];
        }
    }
}
