/** The edges that the document names of the heap: Terms 2 and promises 23 to 26. */
public final class HeapEdgesTest {
    private static final int NONE = Edges.NONE;
    private static final int LOW = Edges.LOW;
    private static final int HIGH = Edges.HIGH;
    private static final int THROWN = Watched.THROWN;
    private static final Edges edges = new Edges();

    private static void due(String call, int got, int want) {
        edges.due(call, got, want);
    }

    private static void refused(String name, int want, Edges.Change state, Edges.Call call) {
        edges.refused(name, want, state, call);
    }

    /** Some of one kind, by as many calls as it takes; answers what the last one answered. */
    private static int put(Watched x, boolean ring, int length, int n) {
        int answer = NONE;
        for (int left = n; left > 0; left -= 100) {
            answer = x.heap(ring, length, Math.min(left, 100));
        }
        return answer;
    }

    private static void few(Watched x) {
        x.heap(false, 2, 1);
        x.heap(false, 5, 2);
        x.heap(true, 4, 3);
    }

    private static void fewBesideAMeadow(Watched x) {
        few(x);
        x.chain(3);
        x.draw(1);
        x.draw(0);
        x.undo();
    }

    /** Chains of 1 to 15 and rings of 2 to 16. */
    private static void of30Kinds(Watched x) {
        for (int length = 1; length <= 15; length++) {
            x.heap(false, length, 1);
            x.heap(true, length + 1, 1);
        }
    }

    /** 100 times 200 heaps within it. */
    private static void withHeaps20000(Watched x) {
        put(x, false, 1, 99);
        put(x, true, 2, 199);
    }

    /** 3 times 59 times 113 heaps within it. */
    private static void withHeaps20001(Watched x) {
        put(x, false, 1, 2);
        put(x, false, 2, 58);
        put(x, false, 3, 112);
    }

    private static void theTermsOfV() {
        edges.sentence("Terms 2", "Its V is 0, if it is empty");
        Watched x = new Watched();
        due("value() of a new heap", x.value(), 0);
        few(x);
        x.empty();
        due("value() of an emptied heap", x.value(), 0);

        edges.sentence("Terms 2", "of CHAINS W is n + R, but if n is 3 or more the greater of that and n - 4 - R");
        for (int length = 1; length <= 5; length++) {
            Watched y = Edges.made(z -> z.heap(true, 9, 1));
            y.heap(false, length, 1);
            // To open the chain, where it can't be left: the other must open the ring of nine.
            PlainHeap plain = new PlainHeap().add(true, 9, 1).add(false, length, 1);
            due("value() of a chain of " + length + " and a ring of nine", y.value(), plain.value());
            due("open(0) of a chain of " + length + " and a ring of nine", y.open(0), plain.best()[0]);
        }
        due("value() of a chain of 2", valueOf(9, true, 2, false), 7);
        due("value() of a chain of 3", valueOf(9, true, 3, false), -6);

        edges.sentence("Terms 2", "of RINGS n + R, but if n is 4 or more the greater of that and n - 8 - R");
        due("value() of a ring of 2", valueOf(9, false, 2, true), 7);
        due("value() of a ring of 3", valueOf(9, false, 3, true), 6);
        due("value() of a ring of 4", valueOf(9, false, 4, true), -5);
        due("value() of a ring of 5", valueOf(9, false, 5, true), -6);
    }

    private static int valueOf(int length, boolean ring, int otherLength, boolean otherRing) {
        Watched x = new Watched();
        x.heap(ring, length, 1);
        x.heap(otherRing, otherLength, 1);
        return x.value();
    }

    private static void theTermsOfTold() {
        edges.sentence("Terms 2", "their numbers, one more each, multiplied, are not above 20,000");
        PlainHeap plain = new PlainHeap().add(false, 1, 99).add(true, 2, 199);
        due("the heaps within it", plain.heaps(), 20000);
        due("value() of 20,000", Edges.made(HeapEdgesTest::withHeaps20000).value(), plain.value());
        due("open(0) of 20,000", Edges.made(HeapEdgesTest::withHeaps20000).open(0), plain.best()[0]);
        PlainHeap other = new PlainHeap().add(false, 3, 24).add(true, 4, 24).add(false, 5, 7).add(true, 8, 3);
        due("the heaps within it", other.heaps(), 20000);
        Edges.Change other20000 = x -> {
            x.heap(false, 3, 24);
            x.heap(true, 4, 24);
            x.heap(false, 5, 7);
            x.heap(true, 8, 3);
        };
        due("value() of another 20,000", Edges.made(other20000).value(), other.value());
        refused("value() of 20,001", THROWN, HeapEdgesTest::withHeaps20001, Watched::value);
        refused("open(0) of 20,001", NONE, HeapEdgesTest::withHeaps20001, x -> x.open(0));
        Edges.Change oneMore = x -> x.with(HeapEdgesTest::withHeaps20000).heap(true, 2, 1);
        refused("value() of 20,100", THROWN, oneMore, Watched::value);
        Edges.Change kindMore = x -> x.with(HeapEdgesTest::withHeaps20000).heap(true, 200, 1);
        refused("value() of 40,000", THROWN, kindMore, Watched::value);

        edges.sentence("Terms 2, with a product that wraps around", "multiplied, are not above 20,000");
        for (int kinds = 2; kinds <= 30; kinds++) {
            Watched x = new Watched();
            for (int k = 0; k < kinds; k++) {
                // 256 each: four of them are 0 in an int, eight of them in a long.
                put(x, k % 2 == 1, 2 + k / 2, 255);
            }
            due("value() of " + kinds + " kinds of 255", x.value(), THROWN);
            due("open(0) of " + kinds + " kinds of 255", x.open(0), NONE);
        }
        Watched most = new Watched();
        for (int k = 0; k < 30; k++) {
            put(most, false, 171 + k, 1000);
        }
        due("value() of 30 kinds of 1,000", most.value(), THROWN);

        edges.sentence("Terms 2", "V is told of HEAPS of 30 kinds of length at most");
        Watched fourteen = new Watched();
        PlainHeap plainFourteen = new PlainHeap();
        for (int length = 1; length <= 7; length++) {
            fourteen.heap(false, 201 - length, 1);
            fourteen.heap(true, 1 + length, 1);
            plainFourteen.add(false, 201 - length, 1).add(true, 1 + length, 1);
        }
        due("value() of 14 kinds", fourteen.value(), plainFourteen.value());
        fourteen.heap(false, 1, 1);
        due("value() of 15 kinds", fourteen.value(), THROWN);
        due("value() of 30 kinds", Edges.made(HeapEdgesTest::of30Kinds).value(), THROWN);
    }

    private static void promise23() {
        edges.sentence("Promise 23", "The HEAP is empty.");
        Edges.Change[] states = {x -> { }, HeapEdgesTest::few, HeapEdgesTest::of30Kinds,
            HeapEdgesTest::withHeaps20000, HeapEdgesTest::withHeaps20001};
        for (Edges.Change state : states) {
            Watched x = Edges.made(state);
            x.open(0);
            x.empty();
            due("value() behind empty()", x.value(), 0);
            due("open(0) behind empty()", x.open(0), NONE);
            due("heap(false, 1, 1) behind empty()", x.heap(false, 1, 1), 1);
            due("heap(true, 2, 1) behind empty()", x.heap(true, 2, 1), 1);
            due("heap(false, 2, 1) behind empty()", x.heap(false, 2, 1), 1);
            // To open the chain of one: the ring and the chain of two behind it are worth 0.
            due("value() behind empty() and three more", x.value(), -1);
        }
        Watched kinds = Edges.made(HeapEdgesTest::of30Kinds);
        kinds.empty();
        for (int length = 171; length <= 200; length++) {
            due("heap(true, " + length + ", 1) behind empty()", kinds.heap(true, length, 1), 1);
        }
        due("heap() of a 31st kind behind empty()", kinds.heap(true, 170, 1), NONE);
        Watched many = Edges.made(x -> put(x, false, 7, 1000));
        many.empty();
        due("heap() of a thousand behind empty()", put(many, false, 7, 1000), 1000);
        Watched meadow = Edges.made(HeapEdgesTest::fewBesideAMeadow);
        meadow.empty();
        due("count(1), as the MEADOW is no HEAP", meadow.count(1), 4);
        due("count(4), as the MEADOW is no HEAP", meadow.count(4), 1);
        due("count(5), as the MEADOW is no HEAP", meadow.count(5), 1);
        due("simple(), as the MEADOW is no HEAP", meadow.simple(), 3);
    }

    private static void promise24() {
        edges.sentence("Promise 24", "NONE: length is not 1 .. 200 (of RINGS 2 .. 200)");
        for (int length : new int[] {1, 2, 199, 200}) {
            due("heap(false, " + length + ", 1)", new Watched().heap(false, length, 1), 1);
        }
        for (int length : new int[] {2, 3, 199, 200}) {
            due("heap(true, " + length + ", 1)", new Watched().heap(true, length, 1), 1);
        }
        for (int length : new int[] {0, 201, 202, -1, -200, 401, 402, 403, LOW, HIGH}) {
            refused("heap(false, " + length + ", 1)", NONE, HeapEdgesTest::fewBesideAMeadow,
                    x -> x.heap(false, length, 1));
            refused("heap(true, " + length + ", 1)", NONE, HeapEdgesTest::fewBesideAMeadow,
                    x -> x.heap(true, length, 1));
        }
        refused("heap(true, 1, 1)", NONE, HeapEdgesTest::fewBesideAMeadow, x -> x.heap(true, 1, 1));
        refused("heap(true, 1, 1) of a new heap", NONE, x -> { }, x -> x.heap(true, 1, 1));
        refused("heap(false, 0, 1) of a new heap", NONE, x -> { }, x -> x.heap(false, 0, 1));

        edges.sentence("Promise 24", "n not 1 .. 100");
        for (int n : new int[] {1, 2, 99, 100}) {
            due("heap(false, 5, " + n + ")", Edges.made(HeapEdgesTest::few).heap(false, 5, n), 2 + n);
            due("heap(true, 5, " + n + ")", Edges.made(HeapEdgesTest::few).heap(true, 5, n), n);
        }
        for (int n : new int[] {0, -1, -2, 101, 102, 1000, LOW, HIGH}) {
            refused("heap(false, 5, " + n + ")", NONE, HeapEdgesTest::fewBesideAMeadow, x -> x.heap(false, 5, n));
            refused("heap(true, 5, " + n + ")", NONE, HeapEdgesTest::fewBesideAMeadow, x -> x.heap(true, 5, n));
        }
    }

    private static void promise24Bounds() {
        edges.sentence("Promise 24", "more than 30 different kinds");
        Watched x = new Watched();
        for (int length = 2; length <= 16; length++) {
            due("heap(false, " + length + ", 1)", x.heap(false, length, 1), 1);
            due("heap(true, " + length + ", 1)", x.heap(true, length, 1), 1);
        }
        due("heap() of a 31st kind", x.heap(false, 1, 1), NONE);
        due("heap() of a kind that is there", x.heap(false, 16, 100), 101);
        due("heap() of a ring that is there", x.heap(true, 2, 99), 100);
        refused("heap(false, 16, 1) of 30", NONE, HeapEdgesTest::of30Kinds, y -> y.heap(false, 16, 1));
        refused("heap(true, 17, 1) of 30", NONE, HeapEdgesTest::of30Kinds, y -> y.heap(true, 17, 1));
        refused("heap(false, 200, 100) of 30", NONE, HeapEdgesTest::of30Kinds, y -> y.heap(false, 200, 100));
        Edges.Change of29 = y -> {
            for (int length = 1; length <= 29; length++) {
                y.heap(false, length, 1);
            }
        };
        due("heap(true, 2, 1) of 29", Edges.made(of29).heap(true, 2, 1), 1);
        due("heap(false, 30, 1) of 29", Edges.made(of29).heap(false, 30, 1), 1);

        edges.sentence("Promise 24", "or more than 1,000 of one");
        for (boolean ring : new boolean[] {false, true}) {
            Edges.Change thousand = y -> put(y, ring, 7, 1000);
            due("heap() up to 1,000", put(new Watched(), ring, 7, 1000), 1000);
            refused("heap() of 1 with 1,000", NONE, thousand, y -> y.heap(ring, 7, 1));
            refused("heap() of 100 with 1,000", NONE, thousand, y -> y.heap(ring, 7, 100));
            Edges.Change near = y -> put(y, ring, 7, 950);
            refused("heap() of 51 with 950", NONE, near, y -> y.heap(ring, 7, 51));
            refused("heap() of 100 with 950", NONE, near, y -> y.heap(ring, 7, 100));
            due("heap() of 50 with 950", Edges.made(near).heap(ring, 7, 50), 1000);
            due("heap() of the other kind with 1,000", Edges.made(thousand).heap(!ring, 7, 1), 1);
        }
    }

    private static void promise25() {
        edges.sentence("Promise 25", "V of the HEAP.");
        due("value() of one chain of 1", Edges.made(x -> x.heap(false, 1, 1)).value(), -1);
        due("value() of one chain of 200", Edges.made(x -> x.heap(false, 200, 1)).value(), -200);
        due("value() of one ring of 2", Edges.made(x -> x.heap(true, 2, 1)).value(), -2);
        due("value() of one ring of 200", Edges.made(x -> x.heap(true, 200, 1)).value(), -200);
        due("value() of 1,000 chains of 200", Edges.made(x -> put(x, false, 200, 1000)).value(), -196 * 999 - 200);
        due("value() of 1,000 rings of 200", Edges.made(x -> put(x, true, 200, 1000)).value(), -192 * 999 - 200);
        due("value() of 1,000 chains of 1", Edges.made(x -> put(x, false, 1, 1000)).value(), 0);
        Watched one = new Watched();
        one.heap(false, 1, 1);
        due("value() of one chain of 1", one.value(), -1);
        one.heap(false, 1, 1);
        due("value() of two chains of 1", one.value(), 0);

        edges.sentence("Promise 25", "IllegalStateException: it is not told.");
        refused("value() of 20,001", THROWN, HeapEdgesTest::withHeaps20001, Watched::value);
        refused("value() of 30 kinds", THROWN, HeapEdgesTest::of30Kinds, Watched::value);
        Watched x = Edges.made(HeapEdgesTest::withHeaps20001);
        due("value() of 20,001", x.value(), THROWN);
        due("value() of 20,001 again", x.value(), THROWN);
        x.empty();
        due("value() when it is empty", x.value(), 0);
        // 1,001 times 19 are 19,019, times 20 are 20,020.
        Watched y = Edges.made(z -> put(z, false, 200, 1000));
        y.heap(false, 1, 18);
        due("value() of 19,019", y.value(), -196 * 999 - 200);
        y.heap(false, 1, 1);
        due("value() of 20,020", y.value(), THROWN);
    }

    private static void promise26() {
        edges.sentence("Promise 26", "The i-th kind of length that is best to open in the HEAP, as give().");
        due("open(0) of a chain of 1", Edges.made(x -> x.heap(false, 1, 1)).open(0), 10);
        due("open(0) of a chain of 200", Edges.made(x -> x.heap(false, 200, 1)).open(0), 2000);
        due("open(0) of a ring of 2", Edges.made(x -> x.heap(true, 2, 1)).open(0), 21);
        due("open(0) of a ring of 200", Edges.made(x -> x.heap(true, 200, 1)).open(0), 2001);
        Edges.Change alike = x -> {
            x.heap(true, 2, 1);
            x.heap(true, 200, 1);
            x.heap(false, 2, 2);
        };
        Watched x = Edges.made(alike);
        due("open(0)", x.open(0), 20);
        due("open(1)", x.open(1), 21);
        due("open(2)", x.open(2), NONE);
        Watched two = new Watched();
        two.heap(false, 5, 1);
        two.heap(false, 3, 1);
        due("open(0) of 5 and 3", two.open(0), 30);
        due("open(1) of 5 and 3", two.open(1), 50);

        edges.sentence("Promise 26", "NONE without");
        for (int i : new int[] {-1, 2, 3, 30, LOW, HIGH}) {
            refused("open(" + i + ") of two", NONE, alike, y -> y.open(i));
        }
        refused("open(0) of a new heap", NONE, y -> { }, y -> y.open(0));
        refused("open(0) of an emptied heap", NONE, y -> y.with(HeapEdgesTest::few).empty(), y -> y.open(0));

        edges.sentence("Promise 26", "or if V is not told");
        PlainHeap plain = new PlainHeap().add(false, 1, 99).add(true, 2, 199);
        due("open(0) of 20,000", Edges.made(HeapEdgesTest::withHeaps20000).open(0), plain.best()[0]);
        refused("open(0) of 20,001", NONE, HeapEdgesTest::withHeaps20001, y -> y.open(0));
        refused("open(0) of 30 kinds", NONE, HeapEdgesTest::of30Kinds, y -> y.open(0));
    }

    public static void main(String[] args) {
        theTermsOfV();
        theTermsOfTold();
        promise23();
        promise24();
        promise24Bounds();
        promise25();
        promise26();
        edges.end();
    }
}
