import java.util.ArrayDeque;
import java.util.ArrayList;
import java.util.BitSet;
import java.util.HashMap;
import java.util.List;
import java.util.Map;
import java.util.NoSuchElementException;
import java.util.Random;
import java.util.TreeMap;
import java.util.TreeSet;

/**
 * Runs of calls from fixed seeds, against a model that keeps no more than the line of draws and
 * works everything out anew, by the document's words.
 */
public final class PlainModelTest {
    private static final int NONE = -1;
    private static final int UNTOLD = 1000;
    private static final int CALLS = 500;

    /** A part as the document describes it. */
    private static final class Part {
        final TreeSet<Integer> fields = new TreeSet<>();
        int kind;
        int sides;
        int loose;
    }

    /** The plain model. */
    private static final class Plain {
        int fields = 0;
        final List<int[]> sides = new ArrayList<>();
        final List<Integer> draws = new ArrayList<>();
        final ArrayDeque<Integer> undone = new ArrayDeque<>();
        // Chains by length, rings by 1000 and their length.
        final TreeMap<Integer, Integer> heap = new TreeMap<>();
        final Map<BitSet, Integer> worths = new HashMap<>();

        void clear() {
            fields = 0;
            sides.clear();
            draws.clear();
            undone.clear();
            worths.clear();
        }

        int field() {
            if (fields == 200 || !draws.isEmpty() || !undone.isEmpty()) {
                return NONE;
            }
            return fields++;
        }

        int side(int a, int b) {
            boolean drawnOnce = !draws.isEmpty() || !undone.isEmpty();
            if (drawnOnce || sides.size() == 500 || a < 0 || a >= fields || b < NONE || b >= fields || a == b) {
                return NONE;
            }
            if (sidesOf(a).size() == 4 || b != NONE && sidesOf(b).size() == 4) {
                return NONE;
            }
            sides.add(new int[] {a, b});
            return sides.size() - 1;
        }

        boolean grid(int rows, int columns) {
            if (rows < 1 || rows > 12 || columns < 1 || columns > 12) {
                return false;
            }
            clear();
            fields = rows * columns;
            for (int i = 0; i < (rows + 1) * columns; i++) {
                int above = i - columns;
                boolean hasAbove = i / columns > 0;
                boolean hasBelow = i / columns < rows;
                sides.add(new int[] {hasAbove ? above : i, hasAbove && hasBelow ? i : NONE});
            }
            for (int i = 0; i < rows * (columns + 1); i++) {
                int row = i / (columns + 1);
                int column = i % (columns + 1);
                int right = row * columns + column;
                boolean inner = column > 0 && column < columns;
                sides.add(new int[] {column > 0 ? right - 1 : right, inner ? right : NONE});
            }
            return true;
        }

        List<Integer> sidesOf(int field) {
            List<Integer> all = new ArrayList<>();
            for (int s = 0; s < sides.size(); s++) {
                if (sides.get(s)[0] == field || sides.get(s)[1] == field) {
                    all.add(s);
                }
            }
            return all;
        }

        BitSet openSet() {
            BitSet open = new BitSet();
            open.set(0, sides.size());
            for (int s : draws) {
                open.clear(s);
            }
            return open;
        }

        int openOf(BitSet open, int field) {
            int n = 0;
            for (int s = open.nextSetBit(0); s >= 0; s = open.nextSetBit(s + 1)) {
                n += sides.get(s)[0] == field || sides.get(s)[1] == field ? 1 : 0;
            }
            return n;
        }

        int closes(BitSet open, int side) {
            int n = 0;
            for (int f : sides.get(side)) {
                n += f != NONE && openOf(open, f) == 1 ? 1 : 0;
            }
            return n;
        }

        /** The owners of the fields, and behind them who is to draw. */
        int[] owners() {
            int[] owner = new int[fields + 1];
            java.util.Arrays.fill(owner, NONE);
            BitSet open = new BitSet();
            open.set(0, sides.size());
            int turn = 0;
            for (int s : draws) {
                int closed = closes(open, s);
                for (int f : sides.get(s)) {
                    if (f != NONE && openOf(open, f) == 1) {
                        owner[f] = turn;
                    }
                }
                open.clear(s);
                turn = closed > 0 ? turn : 1 - turn;
            }
            owner[fields] = open.isEmpty() ? NONE : turn;
            return owner;
        }

        int draw(int side) {
            BitSet open = openSet();
            if (side < 0 || side >= sides.size() || !open.get(side)) {
                return NONE;
            }
            int closed = closes(open, side);
            draws.add(side);
            undone.clear();
            return closed;
        }

        int undo() {
            if (draws.isEmpty()) {
                return NONE;
            }
            undone.push(draws.remove(draws.size() - 1));
            return undone.peek();
        }

        int redo() {
            if (undone.isEmpty()) {
                return NONE;
            }
            draws.add(undone.pop());
            return draws.get(draws.size() - 1);
        }

        List<Part> parts() {
            BitSet open = openSet();
            List<Part> all = new ArrayList<>();
            boolean[] seen = new boolean[fields];
            for (int f = 0; f < fields; f++) {
                if (!seen[f] && openOf(open, f) > 0) {
                    Part part = new Part();
                    part.fields.add(f);
                    boolean grown = true;
                    while (grown) {
                        grown = false;
                        for (int s = open.nextSetBit(0); s >= 0; s = open.nextSetBit(s + 1)) {
                            int a = sides.get(s)[0];
                            int b = sides.get(s)[1];
                            if (b != NONE && part.fields.contains(a) != part.fields.contains(b)) {
                                part.fields.add(a);
                                part.fields.add(b);
                                grown = true;
                            }
                        }
                    }
                    for (int g : part.fields) {
                        seen[g] = true;
                    }
                    describe(part, open);
                    all.add(part);
                }
            }
            return all;
        }

        void describe(Part part, BitSet open) {
            boolean atMostTwo = true;
            boolean allTwo = true;
            boolean outside = false;
            int ones = 0;
            for (int f : part.fields) {
                int n = openOf(open, f);
                atMostTwo &= n <= 2;
                allTwo &= n == 2;
                ones += n == 1 ? 1 : 0;
            }
            for (int s = open.nextSetBit(0); s >= 0; s = open.nextSetBit(s + 1)) {
                if (part.fields.contains(sides.get(s)[0])) {
                    part.sides++;
                    outside |= sides.get(s)[1] == NONE;
                }
            }
            boolean ring = allTwo && !outside;
            part.kind = ring ? 1 : atMostTwo ? 0 : 2;
            part.loose = part.kind == 0 ? ones : 0;
        }

        int loose() {
            BitSet open = openSet();
            int all = 0;
            boolean any = true;
            while (any) {
                any = false;
                for (int s = sides.size() - 1; s >= 0; s--) {
                    if (open.get(s) && closes(open, s) > 0) {
                        all += closes(open, s);
                        open.clear(s);
                        any = true;
                    }
                }
            }
            return all;
        }

        int worthOfDraw(BitSet open, int side) {
            int closed = closes(open, side);
            BitSet behind = (BitSet) open.clone();
            behind.clear(side);
            return closed > 0 ? closed + worthOf(behind) : -worthOf(behind);
        }

        int worthOf(BitSet open) {
            if (open.isEmpty()) {
                return 0;
            }
            Integer known = worths.get(open);
            if (known != null) {
                return known;
            }
            int best = Integer.MIN_VALUE;
            for (int s = open.nextSetBit(0); s >= 0; s = open.nextSetBit(s + 1)) {
                best = Math.max(best, worthOfDraw(open, s));
            }
            worths.put(open, best);
            return best;
        }

        int worth() {
            BitSet open = openSet();
            return open.cardinality() > 16 ? UNTOLD : worthOf(open);
        }

        int worthOf(int side) {
            BitSet open = openSet();
            boolean told = open.cardinality() <= 16 && side >= 0 && open.get(side);
            return told ? worthOfDraw(open, side) : UNTOLD;
        }

        int best(int i) {
            List<Integer> all = new ArrayList<>();
            for (int s = 0; s < sides.size() && worth() != UNTOLD; s++) {
                if (worthOf(s) == worth()) {
                    all.add(s);
                }
            }
            return i >= 0 && i < all.size() ? all.get(i) : NONE;
        }

        /** The heap of the parts without loose ones, or null of a meadow that is not simple. */
        TreeMap<Integer, Integer> ownHeap() {
            TreeMap<Integer, Integer> own = new TreeMap<>();
            for (Part p : parts()) {
                if (p.kind == 2) {
                    return null;
                }
                if (p.loose == 0) {
                    own.merge(p.kind * 1000 + p.fields.size(), 1, Integer::sum);
                }
            }
            return own;
        }

        /** Closing all, leaving two, leaving four: null where it can't be. Null: not told. */
        Integer[] choices() {
            TreeMap<Integer, Integer> own = ownHeap();
            if (own == null || !told(own)) {
                return null;
            }
            int rest = value(own, new HashMap<>());
            int loosened = 0;
            boolean two = false;
            boolean four = false;
            for (Part p : parts()) {
                if (p.loose > 0) {
                    loosened += p.fields.size();
                    two |= p.loose == 1 && p.fields.size() >= 2;
                    four |= p.loose == 2 && p.fields.size() >= 4;
                }
            }
            return new Integer[] {loosened + rest, two ? loosened - 4 - rest : null,
                four ? loosened - 8 - rest : null};
        }

        boolean anyLoose() {
            for (Part p : parts()) {
                if (p.loose > 0) {
                    return true;
                }
            }
            return false;
        }

        int simple() {
            Integer[] choices = choices();
            if (choices == null) {
                return UNTOLD;
            }
            int best = choices[0];
            for (Integer c : choices) {
                best = c == null ? best : Math.max(best, c);
            }
            return best;
        }

        int keep() {
            Integer[] choices = choices();
            if (choices == null || !anyLoose()) {
                return UNTOLD;
            }
            if (choices[1] == null && choices[2] == null) {
                return 1;
            }
            int two = choices[1] == null ? Integer.MIN_VALUE : choices[1];
            int four = choices[2] == null ? Integer.MIN_VALUE : choices[2];
            return Integer.signum(Integer.compare(choices[0], Math.max(two, four)));
        }

        int give(int i) {
            return choices() == null || anyLoose() ? NONE : bestKind(ownHeap(), i);
        }

        int longs() {
            int n = 0;
            for (Part p : parts()) {
                n += p.kind == 1 || p.kind == 0 && p.loose == 0 && p.fields.size() >= 3 ? 1 : 0;
            }
            return n;
        }

        boolean told(TreeMap<Integer, Integer> of) {
            long product = 1;
            for (int n : of.values()) {
                product = Math.min(1_000_000, product * (n + 1));
            }
            return of.size() <= 30 && product <= 20_000;
        }

        int opening(TreeMap<Integer, Integer> of, int kind, Map<TreeMap<Integer, Integer>, Integer> known) {
            TreeMap<Integer, Integer> without = new TreeMap<>(of);
            if (without.merge(kind, -1, Integer::sum) == 0) {
                without.remove(kind);
            }
            int rest = value(without, known);
            int n = kind % 1000;
            int least = kind > 1000 ? 4 : 3;
            int cost = kind > 1000 ? 8 : 4;
            return -(n >= least ? Math.max(n + rest, n - cost - rest) : n + rest);
        }

        int value(TreeMap<Integer, Integer> of, Map<TreeMap<Integer, Integer>, Integer> known) {
            if (of.isEmpty()) {
                return 0;
            }
            Integer old = known.get(of);
            if (old != null) {
                return old;
            }
            int best = Integer.MIN_VALUE;
            for (int kind : of.keySet()) {
                best = Math.max(best, opening(of, kind, known));
            }
            known.put(of, best);
            return best;
        }

        int bestKind(TreeMap<Integer, Integer> of, int i) {
            List<Integer> all = new ArrayList<>();
            Map<TreeMap<Integer, Integer>, Integer> known = new HashMap<>();
            for (int kind : of.keySet()) {
                if (opening(of, kind, known) == value(of, known)) {
                    all.add(kind % 1000 * 10 + kind / 1000);
                }
            }
            return i >= 0 && i < all.size() ? all.get(i) : NONE;
        }

        int heap(boolean ring, int length, int n) {
            int kind = (ring ? 1000 : 0) + length;
            if (length < (ring ? 2 : 1) || length > 200 || n < 1 || n > 100) {
                return NONE;
            }
            if (!heap.containsKey(kind) && heap.size() == 30 || heap.getOrDefault(kind, 0) + n > 1000) {
                return NONE;
            }
            return heap.merge(kind, n, Integer::sum);
        }
    }

    private static int wrong = 0;

    private final Random random;
    private final String name;
    private final FenceBench bench = new FenceBench();
    private final Plain plain = new Plain();
    private int calls = 0;

    private PlainModelTest(String name, long seed) {
        this.name = name + " " + seed;
        random = new Random(seed);
    }

    private void due(String call, long got, long want) {
        calls++;
        if (got != want && wrong++ < 20) {
            System.out.println(name + ": " + call + " answered " + got + ", due is " + want);
        }
    }

    /** Mostly of 0 .. bound - 1, now and then out of it. */
    private int number(int bound) {
        int die = random.nextInt(40);
        int[] odd = {-1, -2, bound, bound + 1, Integer.MIN_VALUE, Integer.MAX_VALUE};
        return die < odd.length ? odd[die] : random.nextInt(Math.max(1, bound));
    }

    private int field() {
        int want = plain.field();
        due("field()", bench.field(), want);
        return want;
    }

    private void side(int a, int b) {
        due("side(" + a + ", " + b + ")", bench.side(a, b), plain.side(a, b));
    }

    private void draw(int s) {
        due("draw(" + s + ")", bench.draw(s), plain.draw(s));
    }

    private void grid(int rows, int columns) {
        due("grid(" + rows + ", " + columns + ")", bench.grid(rows, columns) ? 1 : 0, plain.grid(rows, columns) ? 1 : 0);
    }

    private void lookAtFields() {
        BitSet open = plain.openSet();
        int[] owners = plain.owners();
        List<Part> parts = plain.parts();
        int f = number(plain.fields);
        boolean there = f >= 0 && f < plain.fields;
        int in = NONE;
        for (int p = 0; p < parts.size(); p++) {
            in = parts.get(p).fields.contains(f) ? p : in;
        }
        due("look(" + f + ", 0)", bench.look(f, 0), there ? plain.openOf(open, f) : NONE);
        due("look(" + f + ", 1)", bench.look(f, 1), there ? plain.sidesOf(f).size() : NONE);
        due("look(" + f + ", 2)", bench.look(f, 2), there ? owners[f] : NONE);
        due("look(" + f + ", 3)", bench.look(f, 3), there ? in : NONE);
        due("look(" + f + ", 4)", bench.look(f, 4), NONE);
        due("whose()", bench.whose(), owners[plain.fields]);
    }

    private void askOfSides() {
        BitSet open = plain.openSet();
        int s = number(plain.sides.size());
        boolean there = s >= 0 && s < plain.sides.size();
        due("ask(" + s + ", 0)", bench.ask(s, 0), !there ? NONE : open.get(s) ? 1 : 0);
        due("ask(" + s + ", 1)", bench.ask(s, 1), there ? plain.sides.get(s)[0] : NONE);
        due("ask(" + s + ", 2)", bench.ask(s, 2), there ? plain.sides.get(s)[1] : NONE);
        due("ask(" + s + ", 3)", bench.ask(s, 3), !there ? NONE : open.get(s) ? plain.closes(open, s) : 0);
        due("ask(" + s + ", -1)", bench.ask(s, -1), NONE);
    }

    private void askForDraws() {
        int i = number(plain.draws.size());
        boolean there = i >= 0 && i < plain.draws.size();
        long got;
        try {
            got = bench.drawn(i);
        } catch (NoSuchElementException e) {
            got = -100;
        }
        due("drawn(" + i + ")", got, there ? plain.draws.get(i) : -100);
    }

    private void askForParts() {
        List<Part> parts = plain.parts();
        int i = number(parts.size());
        Part part = i >= 0 && i < parts.size() ? parts.get(i) : null;
        int[] want = part == null ? new int[] {NONE, NONE, NONE, NONE, NONE, NONE}
                : new int[] {part.kind, part.fields.size(), part.sides, part.loose, part.fields.first(), NONE};
        for (int what = 0; what < want.length; what++) {
            due("part(" + i + ", " + what + ")", bench.part(i, what), want[what]);
        }
        due("loose()", bench.loose(), plain.loose());
        due("longs()", bench.longs(), plain.longs());
    }

    private void askForCounts() {
        int[] owners = plain.owners();
        int[] owned = new int[2];
        for (int f = 0; f < plain.fields; f++) {
            if (owners[f] != NONE) {
                owned[owners[f]]++;
            }
        }
        int[] want = {plain.fields, plain.sides.size(), plain.openSet().cardinality(), owned[0] + owned[1],
            plain.draws.size(), plain.undone.size(), plain.parts().size(), plain.ownHeap() == null ? 0 : 1,
            owned[0], owned[1], NONE};
        int what = number(want.length);
        due("count(" + what + ")", bench.count(what), what >= 0 && what < want.length ? want[what] : NONE);
    }

    private void askForWorth() {
        int s = number(plain.sides.size());
        int i = number(4);
        due("worth()", bench.worth(), plain.worth());
        due("worthOf(" + s + ")", bench.worthOf(s), plain.worthOf(s));
        due("best(" + i + ")", bench.best(i), plain.best(i));
    }

    private void askForLengths() {
        int i = number(3);
        due("simple()", bench.simple(), plain.simple());
        due("keep()", bench.keep(), plain.keep());
        due("give(" + i + ")", bench.give(i), plain.give(i));
    }

    private void askOfHeap() {
        boolean told = plain.told(plain.heap);
        long got;
        try {
            got = bench.value();
        } catch (IllegalStateException e) {
            got = Integer.MAX_VALUE;
        }
        due("value()", got, told ? plain.value(plain.heap, new HashMap<>()) : Integer.MAX_VALUE);
        int i = number(3);
        due("open(" + i + ")", bench.open(i), told ? plain.bestKind(plain.heap, i) : NONE);
    }

    private void askAnything() {
        switch (random.nextInt(7)) {
            case 0: lookAtFields(); break;
            case 1: askOfSides(); break;
            case 2: askForDraws(); break;
            case 3: askForParts(); break;
            case 4: askForCounts(); break;
            case 5: askForWorth(); break;
            default: askForLengths(); break;
        }
    }

    private void play() {
        int die = random.nextInt(20);
        int sides = plain.sides.size();
        if (die < 11) {
            BitSet open = plain.openSet();
            int from = random.nextInt(sides + 1);
            int next = open.nextSetBit(from);
            draw(random.nextInt(10) == 0 || next < 0 ? number(sides) : next);
        } else if (die < 15) {
            due("undo()", bench.undo(), plain.undo());
        } else if (die < 18) {
            due("redo()", bench.redo(), plain.redo());
        } else if (die == 18) {
            field();
        } else {
            side(number(plain.fields), number(plain.fields));
        }
    }

    private void anew() {
        bench.clear();
        plain.clear();
        calls++;
    }

    private void layRandom() {
        anew();
        int fields = 1 + random.nextInt(9);
        for (int f = 0; f < fields; f++) {
            field();
        }
        int sides = random.nextInt(20);
        for (int s = 0; s < sides; s++) {
            side(number(fields), random.nextInt(3) == 0 ? NONE : number(fields));
            if (random.nextInt(5) == 0) {
                askAnything();
            }
        }
    }

    private void layStrips(int most) {
        anew();
        int fields = 0;
        while (fields < most) {
            int length = 1 + random.nextInt(6);
            fields += length;
            if (random.nextInt(3) == 0 && length > 1) {
                ring(length);
            } else {
                strip(length, random.nextInt(8) == 0 ? 1 : 2);
            }
        }
    }

    private void strip(int length, int ends) {
        int from = plain.fields;
        for (int i = 0; i < length; i++) {
            field();
        }
        for (int i = 1; i < length; i++) {
            side(from + i, from + i - 1);
        }
        side(from, NONE);
        if (ends > 1) {
            side(from + length - 1, NONE);
        }
    }

    private void ring(int length) {
        int from = plain.fields;
        for (int i = 0; i < length; i++) {
            field();
        }
        for (int i = 0; i < length; i++) {
            side(from + i, from + (i + 1) % length);
        }
    }

    private void runOver(int rounds) {
        for (int i = 0; i < rounds && calls < CALLS; i++) {
            play();
            askAnything();
        }
    }

    private static void randomMeadows(long seed) {
        PlainModelTest run = new PlainModelTest("random meadows", seed);
        while (run.calls < CALLS) {
            run.layRandom();
            run.runOver(30);
        }
    }

    private static void strips(long seed, int most) {
        PlainModelTest run = new PlainModelTest("strips", seed);
        while (run.calls < CALLS) {
            run.layStrips(most);
            run.runOver(30);
        }
    }

    private static void grids(long seed, int most) {
        PlainModelTest run = new PlainModelTest("grids", seed);
        while (run.calls < CALLS) {
            run.grid(run.random.nextInt(most + 2), 1 + run.random.nextInt(most));
            BitSet open = run.plain.openSet();
            int leave = 6 + run.random.nextInt(12);
            while (open.cardinality() > leave && run.calls < CALLS) {
                int s = open.nextSetBit(run.random.nextInt(run.plain.sides.size()));
                if (s >= 0) {
                    run.draw(s);
                    open.clear(s);
                }
                if (run.random.nextInt(12) == 0) {
                    run.askAnything();
                }
            }
            run.runOver(40);
        }
    }

    private static void heaps(long seed) {
        PlainModelTest run = new PlainModelTest("heaps", seed);
        while (run.calls < CALLS) {
            run.bench.empty();
            run.plain.heap.clear();
            int most = 1 + run.random.nextInt(run.random.nextInt(4) == 0 ? 210 : 12);
            int numbers = 1 + run.random.nextInt(run.random.nextInt(8) == 0 ? 100 : 3);
            for (int i = 0; i < 20; i++) {
                boolean ring = run.random.nextInt(3) == 0;
                int length = run.number(most);
                int n = run.number(numbers + 1);
                run.due("heap(" + ring + ", " + length + ", " + n + ")", run.bench.heap(ring, length, n),
                        run.plain.heap(ring, length, n));
                if (run.random.nextInt(3) == 0) {
                    run.askOfHeap();
                }
            }
        }
    }

    public static void main(String[] args) {
        for (long seed = 0; seed < 40; seed++) {
            randomMeadows(seed);
            strips(seed, 7);
            strips(seed, 40);
            grids(seed, 3);
        }
        for (long seed = 0; seed < 3; seed++) {
            grids(seed, 12);
            strips(seed, 190);
            heaps(seed);
        }
        System.out.println(wrong == 0 ? "all answers are as the plain model's" : wrong + " answers are not");
        if (wrong != 0) {
            System.exit(1);
        }
    }
}
