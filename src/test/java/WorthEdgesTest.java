/** The edges that the document names of what meadows are worth: Terms and promises 15 to 20. */
public final class WorthEdgesTest {
    private static final int NONE = Edges.NONE;
    private static final int UNTOLD = Edges.UNTOLD;
    private static final int LOW = Edges.LOW;
    private static final int HIGH = Edges.HIGH;
    private static final Edges edges = new Edges();

    private static void due(String call, int got, int want) {
        edges.due(call, got, want);
    }

    private static void refused(String name, int want, Edges.Change state, Edges.Call call) {
        edges.refused(name, want, state, call);
    }

    /** Fields of one side each, to the outside. */
    private static void ones(Watched x, int n) {
        for (int i = 0; i < n; i++) {
            x.chainWithOneLoose(1);
        }
    }

    /** Pairs of fields that share one side. */
    private static void pairs(Watched x, int n) {
        for (int i = 0; i < n; i++) {
            x.chainWithTwoLoose(2);
        }
    }

    private static void chains(Watched x, int length, int n) {
        for (int i = 0; i < n; i++) {
            x.chain(length);
        }
    }

    private static void rings(Watched x, int length, int n) {
        for (int i = 0; i < n; i++) {
            x.ring(length);
        }
    }

    /** A heap of 25 times 10 times 10 times 4 times 2 heaps within it: 20,000. */
    private static void withHeaps20000(Watched x) {
        chains(x, 1, 24);
        chains(x, 2, 9);
        rings(x, 2, 9);
        chains(x, 3, 3);
        rings(x, 3, 1);
    }

    /** 19 times 13 times 9 times 9 are 20,007, the fewest above 20,000 that 200 fields can make. */
    private static void withHeaps20007(Watched x) {
        chains(x, 1, 18);
        chains(x, 2, 12);
        rings(x, 2, 8);
        chains(x, 3, 8);
    }

    private static void theTermsOfWorth() {
        edges.sentence("Terms 1", "0 without OPEN SIDES");
        due("worth() of an empty meadow", new Watched().worth(), 0);
        due("worth() without sides", Edges.made(x -> x.fields(3)).worth(), 0);
        Watched x = Edges.made(y -> ones(y, 2));
        due("worth() with two", x.worth(), 2);
        x.draw(0);
        due("worth() with one", x.worth(), 1);
        x.draw(1);
        due("worth() with none", x.worth(), 0);

        edges.sentence("Terms 1", "the WORTH behind it, if it CLOSES some; else less that");
        due("worth() of one with one side", Edges.made(y -> ones(y, 1)).worth(), 1);
        due("worth() of one with two sides", Edges.made(y -> y.chain(1)).worth(), -1);
        due("worth() of one with three sides", Edges.made(Watched::knot).worth(), 1);
        due("worth() of one with four sides", Edges.made(y -> y.grid(1, 1)).worth(), -1);
        due("worth() of two that share one", Edges.made(y -> pairs(y, 1)).worth(), 2);
        due("worth() of two that share two", Edges.made(y -> y.ring(2)).worth(), -2);
        Watched four = new Watched();
        four.chainWithOneLoose(2);
        four.chain(3);
        // To close both: 2 - 3. To leave both: 3 - 2.
        due("worth() with two to leave", four.worth(), 1);
        due("best(0) with two to leave", four.best(0), 1);
        due("best(1) with two to leave", four.best(1), NONE);
    }

    private static void promise15() {
        edges.sentence("Promise 15", "UNTOLD with more than 16 OPEN SIDES.");
        for (int n : new int[] {1, 15, 16}) {
            due("worth() of " + n, Edges.made(x -> ones(x, n)).worth(), n);
        }
        due("worth() of 17", Edges.made(x -> ones(x, 17)).worth(), UNTOLD);
        due("worth() of 200", Edges.made(x -> ones(x, 200)).worth(), UNTOLD);
        due("worth() of 16 pairs", Edges.made(x -> pairs(x, 16)).worth(), 32);
        due("worth() of 17 pairs", Edges.made(x -> pairs(x, 17)).worth(), UNTOLD);
        due("worth() of a ring of 16", Edges.made(x -> x.ring(16)).worth(), -16);
        due("worth() of a ring of 17", Edges.made(x -> x.ring(17)).worth(), UNTOLD);
        due("worth() of a chain of 15", Edges.made(x -> x.chain(15)).worth(), -15);
        due("worth() of a chain of 16", Edges.made(x -> x.chain(16)).worth(), UNTOLD);
        due("worth() of 12 by 12", Edges.made(x -> x.grid(12, 12)).worth(), UNTOLD);

        edges.sentence("Promise 15, behind draws and undone ones", "UNTOLD with more than 16 OPEN SIDES.");
        Watched x = Edges.made(y -> ones(y, 18));
        x.draw(17);
        due("worth() of 18 with 17 open", x.worth(), UNTOLD);
        x.draw(0);
        due("worth() of 18 with 16 open", x.worth(), 16);
        x.undo();
        due("worth() of 18 with 17 open again", x.worth(), UNTOLD);
        x.redo();
        due("worth() of 18 with 16 open again", x.worth(), 16);
        x.undo();
        x.draw(8);
        due("worth() of 18 with 16 others open", x.worth(), 16);
        x.draw(1);
        due("worth() of 18 with 15 open", x.worth(), 15);
        Watched turns = Edges.made(y -> ones(y, 17));
        for (int s = 0; s < 17; s++) {
            turns.draw(s);
            due("worth() of 17 without " + s, turns.worth(), 16);
            due("best(15) of 17 without " + s, turns.best(15), s == 16 ? 15 : 16);
            turns.undo();
        }
        Watched far = Edges.made(y -> ones(y, 100));
        for (int s = 0; s < 83; s++) {
            far.draw(s);
        }
        due("worth() of the last 17 of 100", far.worth(), UNTOLD);
        far.draw(83);
        due("worth() of the last 16 of 100", far.worth(), 16);
        due("best(15) of the last 16 of 100", far.best(15), 99);
    }

    private static void promise16() {
        edges.sentence("Promise 16", "the FIELDS that it CLOSES and the WORTH behind it, or less that");
        Watched x = new Watched();
        x.chainWithTwoLoose(2);
        x.chainWithOneLoose(1);
        x.chain(1);
        due("worthOf(0) closing two", x.worthOf(0), 2 + 1 - 1);
        due("worthOf(1) closing one", x.worthOf(1), 1 + 2 - 1);
        due("worthOf(2) closing none", x.worthOf(2), -(2 + 1 + 1));
        due("worthOf(3) closing none", x.worthOf(3), -(2 + 1 + 1));

        edges.sentence("Promise 16", "UNTOLD likewise");
        Watched sixteen = Edges.made(y -> ones(y, 16));
        for (int s = 0; s < 16; s++) {
            due("worthOf(" + s + ") of 16", sixteen.worthOf(s), 16);
        }
        Watched seventeen = Edges.made(y -> ones(y, 17));
        for (int s = 0; s < 17; s++) {
            due("worthOf(" + s + ") of 17", seventeen.worthOf(s), UNTOLD);
        }
        refused("worthOf(16) of 17", UNTOLD, y -> ones(y, 17), y -> y.worthOf(16));
        seventeen.draw(16);
        due("worthOf(15) with 16 of 17 open", seventeen.worthOf(15), 16);

        edges.sentence("Promise 16", "or if it is not OPEN");
        Edges.Change half = y -> {
            y.chain(3);
            y.draw(0);
            y.draw(1);
            y.undo();
        };
        due("worthOf(1), undone", Edges.made(half).worthOf(1), 3);
        due("worthOf(3), the last", Edges.made(half).worthOf(3), -3);
        for (int s : new int[] {0, -1, 4, 5, 499, 500, LOW, HIGH}) {
            refused("worthOf(" + s + ")", UNTOLD, half, y -> y.worthOf(s));
        }
        Edges.Change fewer = y -> {
            ones(y, 16);
            y.worth();
            y.grid(1, 1);
        };
        refused("worthOf(4) where there were more once", UNTOLD, fewer, y -> y.worthOf(4));
        due("worthOf(0) without fields", new Watched().worthOf(0), UNTOLD);
    }

    private static void promise17() {
        edges.sentence("Promise 17", "The i-th SIDE (from 0 on, rising) that is worth WORTH.");
        Watched x = Edges.made(y -> ones(y, 16));
        for (int i = 0; i < 16; i++) {
            due("best(" + i + ") of 16", x.best(i), i);
        }
        due("best(16) of 16", x.best(16), NONE);
        Watched y = Edges.made(z -> z.chain(3));
        y.chain(1);
        due("best(0)", y.best(0), 4);
        due("best(1)", y.best(1), 5);
        due("best(2)", y.best(2), NONE);
        y.draw(4);
        due("best(0) when 4 is drawn", y.best(0), 5);
        due("best(1) when 4 is drawn", y.best(1), NONE);
        y.undo();
        due("best(0) when it is undone", y.best(0), 4);

        edges.sentence("Promise 17", "NONE without");
        Edges.Change half = z -> {
            z.chain(3);
            z.draw(0);
            z.draw(1);
            z.undo();
        };
        due("best(0), the last", Edges.made(half).best(0), 1);
        for (int i : new int[] {-1, 1, 2, LOW, HIGH}) {
            refused("best(" + i + ")", NONE, half, z -> z.best(i));
        }
        refused("best(0) of an empty meadow", NONE, z -> { }, z -> z.best(0));
        refused("best(0) without sides", NONE, z -> z.fields(2), z -> z.best(0));
        Edges.Change all = z -> {
            ones(z, 1);
            z.draw(0);
        };
        refused("best(0) with all drawn", NONE, all, z -> z.best(0));

        edges.sentence("Promise 17", "or UNTOLD");
        refused("best(0) of 17", NONE, z -> ones(z, 17), z -> z.best(0));
        Watched seventeen = Edges.made(z -> ones(z, 17));
        seventeen.draw(3);
        due("best(3) with 16 of 17 open", seventeen.best(3), 4);
        due("best(15) with 16 of 17 open", seventeen.best(15), 16);
        seventeen.undo();
        due("best(0) with 17 open again", seventeen.best(0), NONE);
    }

    /** A meadow with a ring of nine, which is worth -9 to who must open it, and loose ones. */
    private static Watched besideNine(Edges.Change loose) {
        Watched x = Edges.made(loose);
        x.ring(9);
        return x;
    }

    private static void theTermsOfSimpleMeadows() {
        edges.sentence("Terms 2", "T - 4 - R, if a CHAIN with LOOSE 1 has 2 FIELDS or more");
        due("simple() with 1", besideNine(x -> x.chainWithOneLoose(1)).simple(), 1 - 9);
        due("simple() with 2", besideNine(x -> x.chainWithOneLoose(2)).simple(), 2 - 4 + 9);
        due("simple() with 3", besideNine(x -> x.chainWithOneLoose(3)).simple(), 3 - 4 + 9);
        due("simple() with 4", besideNine(x -> x.chainWithOneLoose(4)).simple(), 4 - 4 + 9);
        due("simple() with 1 and 1", besideNine(x -> ones(x, 2)).simple(), 2 - 9);

        edges.sentence("Terms 2", "T - 8 - R, if one with LOOSE 2 has 4 or more");
        due("simple() with 2", besideNine(x -> x.chainWithTwoLoose(2)).simple(), 2 - 9);
        due("simple() with 3", besideNine(x -> x.chainWithTwoLoose(3)).simple(), 3 - 9);
        due("simple() with 4", besideNine(x -> x.chainWithTwoLoose(4)).simple(), 4 - 8 + 9);
        due("simple() with 5", besideNine(x -> x.chainWithTwoLoose(5)).simple(), 5 - 8 + 9);
        due("simple() with 2 and 2", besideNine(x -> pairs(x, 2)).simple(), 4 - 9);

        edges.sentence("Terms 2", "R is V of the HEAP of all others: the greatest of T + R");
        Edges.Change both = x -> {
            x.chainWithTwoLoose(4);
            x.chainWithOneLoose(2);
        };
        due("simple() with two or four", besideNine(both).simple(), 6 - 4 + 9);
        due("simple() with two or four alone", Edges.made(both).simple(), 6);
        Edges.Change neither = x -> {
            x.chainWithTwoLoose(3);
            x.chainWithOneLoose(1);
        };
        due("simple() with neither", besideNine(neither).simple(), 4 - 9);
        Edges.Change fourAndOne = x -> {
            x.chainWithTwoLoose(4);
            x.chainWithOneLoose(1);
        };
        due("simple() with four and one", besideNine(fourAndOne).simple(), 5 - 8 + 9);

        edges.sentence("Terms 2, when draws shorten them", "T - 8 - R, if one with LOOSE 2 has 4 or more");
        Watched fewer = besideNine(x -> x.chainWithOneLoose(2));
        due("simple() with one loose of 2", fewer.simple(), 2 - 4 + 9);
        fewer.draw(0);
        due("simple() with one loose of 1", fewer.simple(), 1 - 9);
        fewer.undo();
        due("simple() with one loose of 2 again", fewer.simple(), 2 - 4 + 9);
        Watched fewerOfFour = besideNine(x -> x.chainWithTwoLoose(4));
        due("simple() with two loose of 4", fewerOfFour.simple(), 4 - 8 + 9);
        due("keep() with two loose of 4", fewerOfFour.keep(), -1);
        fewerOfFour.draw(0);
        due("simple() with two loose of 3", fewerOfFour.simple(), 3 - 9);
        due("keep() with two loose of 3", fewerOfFour.keep(), 1);

        edges.sentence("Terms 2", "T are the FIELDS of all CHAINS with LOOSE ones");
        due("simple() of 200 with one loose", Edges.made(x -> x.chainWithOneLoose(200)).simple(), 200);
        due("simple() of 200 with two loose", Edges.made(x -> x.chainWithTwoLoose(200)).simple(), 200);
        due("simple() of 200 ones", Edges.made(x -> ones(x, 200)).simple(), 200);
    }

    private static void theTermsOfLengthsInAMeadow() {
        edges.sentence("Terms 2", "of CHAINS W is n + R, but if n is 3 or more the greater of that and n - 4 - R");
        due("simple() of a chain of 2 beside nine", besideNine(x -> x.chain(2)).simple(), 7);
        due("simple() of a chain of 3 beside nine", besideNine(x -> x.chain(3)).simple(), -6);
        edges.sentence("Terms 2", "of RINGS n + R, but if n is 4 or more the greater of that and n - 8 - R");
        for (int length = 2; length <= 4; length++) {
            int n = length;
            Watched x = Edges.made(y -> y.ring(n));
            x.chain(9);
            due("simple() of a ring of " + n + " and a chain of nine", x.simple(), n < 4 ? 9 - n : -5);
        }
    }

    private static void promise18() {
        edges.sentence("Promise 18", "That of the SIMPLE MEADOW by lengths");
        due("simple() of an empty meadow", new Watched().simple(), 0);
        due("simple() without sides", Edges.made(x -> x.fields(200)).simple(), 0);
        for (int length : new int[] {1, 2, 3, 4, 200}) {
            due("simple() of a chain of " + length, Edges.made(x -> x.chain(length)).simple(), -length);
        }
        for (int length : new int[] {2, 3, 4, 5, 200}) {
            due("simple() of a ring of " + length, Edges.made(x -> x.ring(length)).simple(), -length);
        }
        Watched all = Edges.made(x -> ones(x, 1));
        all.draw(0);
        due("simple() with all drawn", all.simple(), 0);

        edges.sentence("Promise 18", "UNTOLD of one that is not SIMPLE");
        due("simple() of a knot", Edges.made(Watched::knot).simple(), UNTOLD);
        Watched x = Edges.made(y -> y.chain(3));
        int last = x.knot();
        due("simple() beside a knot", x.simple(), UNTOLD);
        x.draw(last);
        due("simple() with the knot untied", x.simple(), 2);
        x.undo();
        due("simple() beside a knot again", x.simple(), UNTOLD);

        edges.sentence("Promise 18", "or whose HEAP is not told");
        PlainHeap plain = new PlainHeap();
        plain.add(false, 1, 24).add(false, 2, 9).add(true, 2, 9).add(false, 3, 3).add(true, 3, 1);
        due("the heaps within it", plain.heaps(), 20000);
        due("simple() of 20,000", Edges.made(WorthEdgesTest::withHeaps20000).simple(), plain.value());
        due("simple() of 20,007", Edges.made(WorthEdgesTest::withHeaps20007).simple(), UNTOLD);
        Watched y = Edges.made(WorthEdgesTest::withHeaps20007);
        due("count(7) of 20,007", y.count(7), 1);
        y.draw(0);
        PlainHeap less = new PlainHeap();
        less.add(false, 1, 17).add(false, 2, 12).add(true, 2, 8).add(false, 3, 8);
        due("simple() with one of them loose", y.simple(), 1 + less.value());
        y.undo();
        due("simple() of 20,007 again", y.simple(), UNTOLD);
        due("value(), as the HEAP is not the meadow's", y.value(), 0);
    }

    private static void promise18Kinds() {
        edges.sentence("Terms 2, in a MEADOW", "V is told of HEAPS of 30 kinds of length at most");
        Watched x = new Watched();
        PlainHeap plain = new PlainHeap();
        for (int length = 1; length <= 7; length++) {
            x.chain(length);
            x.ring(length + 1);
            plain.add(false, length, 1).add(true, length + 1, 1);
        }
        due("simple() of 14 kinds", x.simple(), plain.value());
        int end = x.chain(8);
        due("simple() of 15 kinds", x.simple(), UNTOLD);
        due("give(0) of 15 kinds", x.give(0), NONE);
        due("keep() of 15 kinds", x.keep(), UNTOLD);
        x.draw(end);
        due("simple() of 14 kinds and eight loose", x.simple(), Math.max(8 + plain.value(), 4 - plain.value()));
        Watched most = new Watched();
        for (int length = 1; length <= 12; length++) {
            most.chain(length);
            most.ring(length + 1);
        }
        due("count(6) of 24 kinds", most.count(6), 24);
        due("simple() of 24 kinds", most.simple(), UNTOLD);
    }

    private static void promise19() {
        edges.sentence("Promise 19", "1 if closing all is worth more than leaving the last two or four, 0 alike, -1 less");
        for (int length = 1; length <= 3; length++) {
            Watched x = Edges.made(y -> y.chainWithOneLoose(2));
            x.chain(length);
            due("keep() of two beside " + length, x.keep(), 2 - length);
        }
        for (int length = 3; length <= 5; length++) {
            Watched x = Edges.made(y -> y.chainWithTwoLoose(4));
            x.chain(length);
            due("keep() of four beside " + length, x.keep(), 4 - length);
        }
        due("keep() of two alone", Edges.made(y -> y.chainWithOneLoose(2)).keep(), 1);
        due("keep() of four alone", Edges.made(y -> y.chainWithTwoLoose(4)).keep(), 1);
        Watched both = Edges.made(y -> y.chainWithOneLoose(2));
        both.chainWithTwoLoose(4);
        both.chain(3);
        due("keep() of two or four beside 3", both.keep(), -1);

        edges.sentence("Promise 19", "(also 1, if nothing can be left so)");
        due("keep() with one loose of 1", besideNine(x -> x.chainWithOneLoose(1)).keep(), 1);
        due("keep() with one loose of 2", besideNine(x -> x.chainWithOneLoose(2)).keep(), -1);
        due("keep() with two loose of 2", besideNine(x -> x.chainWithTwoLoose(2)).keep(), 1);
        due("keep() with two loose of 3", besideNine(x -> x.chainWithTwoLoose(3)).keep(), 1);
        due("keep() with two loose of 4", besideNine(x -> x.chainWithTwoLoose(4)).keep(), -1);

        edges.sentence("Promise 19", "UNTOLD without LOOSE ones");
        refused("keep() of an empty meadow", UNTOLD, x -> { }, Watched::keep);
        refused("keep() without sides", UNTOLD, x -> x.fields(2), Watched::keep);
        refused("keep() of a chain", UNTOLD, x -> x.chain(3), Watched::keep);
        refused("keep() of a ring", UNTOLD, x -> x.ring(2), Watched::keep);
        Watched x = Edges.made(y -> y.chain(1));
        x.draw(0);
        due("keep() with one loose", x.keep(), 1);
        x.draw(1);
        due("keep() with all drawn", x.keep(), UNTOLD);

        edges.sentence("Promise 19", "or as simple()");
        Edges.Change knotted = y -> {
            y.chainWithOneLoose(2);
            y.knot();
        };
        refused("keep() beside a knot", UNTOLD, knotted, Watched::keep);
        Edges.Change told = y -> y.with(WorthEdgesTest::withHeaps20000).chainWithOneLoose(1);
        due("keep() beside 20,000", Edges.made(told).keep(), 1);
        Edges.Change untold = y -> y.with(WorthEdgesTest::withHeaps20007).chainWithOneLoose(1);
        refused("keep() beside 20,007", UNTOLD, untold, Watched::keep);
    }

    private static void promise20() {
        edges.sentence("Promise 20", "CHAINS ahead of RINGS, rising: 10 times the length, and 1 of RINGS");
        for (int length : new int[] {1, 2, 3, 200}) {
            due("give(0) of a chain of " + length, Edges.made(x -> x.chain(length)).give(0), 10 * length);
        }
        for (int length : new int[] {2, 3, 4, 200}) {
            due("give(0) of a ring of " + length, Edges.made(x -> x.ring(length)).give(0), 10 * length + 1);
        }
        Edges.Change alike = x -> {
            x.ring(2);
            x.chain(2);
            x.chain(5);
            x.chain(3);
            x.ring(2);
        };
        PlainHeap plain = new PlainHeap();
        plain.add(true, 2, 2).add(false, 2, 1).add(false, 5, 1).add(false, 3, 1);
        edges.due("give() of kinds alike", given(Edges.made(alike)), plain.best());
        due("simple() of kinds alike", Edges.made(alike).simple(), plain.value());
        Watched two = Edges.made(x -> x.chain(5));
        two.chain(3);
        edges.due("give() of 5 and 3", given(two), 30, 50);
        Watched kinds = Edges.made(x -> x.ring(2));
        chains(kinds, 2, 2);
        edges.due("give() of a ring and chains of 2", given(kinds), 20, 21);

        edges.sentence("Promise 20", "NONE without");
        for (int i : new int[] {-1, 2, 3, LOW, HIGH}) {
            refused("give(" + i + ") of two", NONE, x -> x.with(y -> y.chain(5)).chain(3), x -> x.give(i));
        }
        refused("give(0) of an empty meadow", NONE, x -> { }, x -> x.give(0));
        refused("give(0) without sides", NONE, x -> x.fields(2), x -> x.give(0));

        edges.sentence("Promise 20", "In a SIMPLE MEADOW without LOOSE ones");
        Edges.Change loose = x -> {
            x.chain(3);
            x.chainWithOneLoose(1);
        };
        refused("give(0) with loose ones", NONE, loose, x -> x.give(0));
        Watched x = Edges.made(loose);
        x.draw(4);
        due("give(0) with the loose one closed", x.give(0), 30);

        edges.sentence("Promise 20", "or as simple()");
        refused("give(0) beside a knot", NONE, y -> y.with(z -> z.chain(3)).knot(), y -> y.give(0));
        PlainHeap most = new PlainHeap();
        most.add(false, 1, 24).add(false, 2, 9).add(true, 2, 9).add(false, 3, 3).add(true, 3, 1);
        edges.due("give() of 20,000", given(Edges.made(WorthEdgesTest::withHeaps20000)), most.best());
        refused("give(0) of 20,007", NONE, WorthEdgesTest::withHeaps20007, y -> y.give(0));
    }

    /** All that give() tells. */
    private static int[] given(Watched x) {
        int[] all = new int[30];
        int n = 0;
        for (int kind = x.give(0); kind != NONE && n < all.length; kind = x.give(n)) {
            all[n] = kind;
            n++;
        }
        return java.util.Arrays.copyOf(all, n);
    }

    public static void main(String[] args) {
        theTermsOfWorth();
        promise15();
        promise16();
        promise17();
        theTermsOfSimpleMeadows();
        theTermsOfLengthsInAMeadow();
        promise18();
        promise18Kinds();
        promise19();
        promise20();
        edges.end();
    }
}
