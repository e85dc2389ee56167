/** The edges that the document names of what is looked at: parts and promises 10 to 14, 21, 22. */
public final class LookEdgesTest {
    private static final int NONE = Edges.NONE;
    private static final int LOW = Edges.LOW;
    private static final int HIGH = Edges.HIGH;
    private static final int CHAIN = 0;
    private static final int RING = 1;
    private static final int KNOT = 2;
    private static final Edges edges = new Edges();

    private static void due(String call, int got, int want) {
        edges.due(call, got, want);
    }

    private static void refused(String name, int want, Edges.Change state, Edges.Call call) {
        edges.refused(name, want, state, call);
    }

    private static void duePart(Watched x, int i, int kind, int fields, int sides, int loose, int least) {
        int[] want = {kind, fields, sides, loose, least};
        for (int what = 0; what < want.length; what++) {
            due("part(" + i + ", " + what + ")", x.part(i, what), want[what]);
        }
    }

    /** A chain of two, half drawn, beside a knot with one of four drawn and a field without sides. */
    private static void mixed(Watched x) {
        x.chain(2);
        x.knot();
        x.side(2, NONE);
        x.field();
        x.heap(true, 2, 3);
        x.draw(0);
        x.draw(1);
        x.draw(3);
        x.draw(4);
        x.undo();
    }

    private static void theTermsOfParts() {
        edges.sentence("Terms 1", "FIELDS that have OPEN SIDES hang together by OPEN SIDES of two");
        Watched x = new Watched();
        x.fields(2);
        due("count(6) of fields without sides", x.count(6), 0);
        due("look(0, 3) of a field without sides", x.look(0, 3), NONE);
        x.chain(2);
        due("count(6)", x.count(6), 1);
        due("look(2, 3)", x.look(2, 3), 0);
        due("look(3, 3)", x.look(3, 3), 0);
        x.draw(1);
        due("count(6) when what joins them is drawn", x.count(6), 2);
        due("look(2, 3)", x.look(2, 3), 0);
        due("look(3, 3)", x.look(3, 3), 1);
        x.draw(0);
        due("count(6) when one is closed", x.count(6), 1);
        due("look(2, 3) when closed", x.look(2, 3), NONE);
        due("look(3, 3)", x.look(3, 3), 0);
        x.draw(2);
        due("count(6) when all are closed", x.count(6), 0);
        Watched y = new Watched();
        y.fields(2);
        y.side(0, 1);
        y.side(0, 1);
        y.side(0, 1);
        y.draw(0);
        due("count(6) of two that share two more", y.count(6), 1);
        y.draw(1);
        due("count(6) of two that share one more", y.count(6), 1);

        edges.sentence("Terms 1", "PARTS are told by their least FIELD, rising");
        Watched z = new Watched();
        z.fields(200);
        z.side(199, 1);
        z.side(198, 197);
        z.side(197, 3);
        z.side(0, NONE);
        z.side(2, 4);
        duePart(z, 0, CHAIN, 1, 1, 1, 0);
        duePart(z, 1, CHAIN, 2, 1, 2, 1);
        duePart(z, 2, CHAIN, 2, 1, 2, 2);
        duePart(z, 3, CHAIN, 3, 2, 2, 3);
        due("part(4, 4)", z.part(4, 4), NONE);
        due("look(199, 3)", z.look(199, 3), 1);
        due("look(198, 3)", z.look(198, 3), 3);
    }

    private static void theTermsOfChains() {
        edges.sentence("Terms 1", "A PART is a CHAIN, if each FIELD has at most two OPEN SIDES");
        for (int sides = 1; sides <= 4; sides++) {
            Watched x = new Watched();
            x.field();
            for (int s = 0; s < sides; s++) {
                x.side(0, NONE);
            }
            duePart(x, 0, sides <= 2 ? CHAIN : KNOT, 1, sides, sides == 1 ? 1 : 0, 0);
        }
        Watched y = Edges.made(z -> z.chain(200));
        duePart(y, 0, CHAIN, 200, 201, 0, 0);
        Watched end = Edges.made(z -> z.chain(3));
        end.side(2, NONE);
        duePart(end, 0, KNOT, 3, 5, 0, 0);
        Watched middle = Edges.made(z -> z.chain(3));
        middle.side(1, NONE);
        duePart(middle, 0, KNOT, 3, 5, 0, 0);
        middle.draw(4);
        duePart(middle, 0, CHAIN, 3, 4, 0, 0);
        middle.undo();
        duePart(middle, 0, KNOT, 3, 5, 0, 0);

        edges.sentence("Terms 1", "LOOSE is how many of its FIELDS have one OPEN SIDE alone: 0, 1, 2");
        for (int length = 1; length <= 4; length++) {
            int n = length;
            duePart(Edges.made(z -> z.chain(n)), 0, CHAIN, n, n + 1, 0, 0);
            duePart(Edges.made(z -> z.chainWithOneLoose(n)), 0, CHAIN, n, n, 1, 0);
            if (n > 1) {
                duePart(Edges.made(z -> z.chainWithTwoLoose(n)), 0, CHAIN, n, n - 1, 2, 0);
            }
        }
    }

    private static void theTermsOfRingsAndKnots() {
        edges.sentence("Terms 1", "a RING, if each has two and none leads outside; else a KNOT");
        for (int length : new int[] {2, 3, 4, 200}) {
            duePart(Edges.made(x -> x.ring(length)), 0, RING, length, length, 0, 0);
        }
        Watched x = Edges.made(y -> y.ring(2));
        x.side(0, NONE);
        duePart(x, 0, KNOT, 2, 3, 0, 0);
        x.draw(2);
        duePart(x, 0, RING, 2, 2, 0, 0);
        x.draw(1);
        duePart(x, 0, CHAIN, 2, 1, 2, 0);
        Watched three = new Watched();
        three.fields(2);
        for (int s = 0; s < 3; s++) {
            three.side(0, 1);
        }
        duePart(three, 0, KNOT, 2, 3, 0, 0);
        // Each has two, but one side at either end leads outside.
        duePart(Edges.made(y -> y.chain(1)), 0, CHAIN, 1, 2, 0, 0);
        duePart(Edges.made(y -> y.chain(2)), 0, CHAIN, 2, 3, 0, 0);
        Watched star = new Watched();
        star.fields(4);
        for (int f = 1; f < 4; f++) {
            star.side(0, f);
        }
        duePart(star, 0, KNOT, 4, 3, 0, 0);

        edges.sentence("Terms 1", "The MEADOW is SIMPLE if it has no KNOT.");
        due("count(7) of an empty meadow", new Watched().count(7), 1);
        due("count(7) without sides", Edges.made(y -> y.fields(3)).count(7), 1);
        Watched mixed = new Watched();
        mixed.chain(3);
        mixed.ring(4);
        due("count(7) of a chain and a ring", mixed.count(7), 1);
        int last = mixed.knot();
        due("count(7) with a knot", mixed.count(7), 0);
        mixed.draw(last);
        due("count(7) with the knot untied", mixed.count(7), 1);
        mixed.undo();
        due("count(7) with a knot again", mixed.count(7), 0);
    }

    private static void promise10() {
        edges.sentence("Promise 10", "0 OPEN SIDES, 1 SIDES");
        Watched x = new Watched();
        x.field();
        for (int sides = 0; sides < 4; sides++) {
            due("look(0, 0) with " + sides, x.look(0, 0), sides);
            due("look(0, 1) with " + sides, x.look(0, 1), sides);
            x.side(0, NONE);
        }
        for (int left = 4; left > 0; left--) {
            due("look(0, 0) with " + left + " left", x.look(0, 0), left);
            x.draw(left - 1);
            due("look(0, 1) with " + left + " left", x.look(0, 1), 4);
        }
        due("look(0, 0) with none left", x.look(0, 0), 0);

        edges.sentence("Promise 10", "2 who owns it (NONE)");
        due("look(0, 2) when closed", x.look(0, 2), 1);
        x.undo();
        due("look(0, 2) with one left again", x.look(0, 2), NONE);
        x.redo();
        due("look(0, 2) when closed again", x.look(0, 2), 1);
        Watched y = Edges.made(z -> z.chainWithTwoLoose(2));
        due("look(0, 2)", y.look(0, 2), NONE);
        y.draw(0);
        due("look(0, 2) of the first of two", y.look(0, 2), 0);
        due("look(1, 2) of the second of two", y.look(1, 2), 0);

        edges.sentence("Promise 10", "3 its PART (NONE)");
        Watched m = Edges.made(LookEdgesTest::mixed);
        due("look(0, 3), closed", m.look(0, 3), NONE);
        due("look(1, 3)", m.look(1, 3), 0);
        due("look(2, 3)", m.look(2, 3), 1);
        due("look(3, 3), without sides", m.look(3, 3), NONE);

        edges.sentence("Promise 10", "NONE for another what");
        due("look(2, 3), the last what", m.look(2, 3), 1);
        for (int what : new int[] {-1, 4, 5, LOW, HIGH}) {
            refused("look(2, " + what + ")", NONE, LookEdgesTest::mixed, z -> z.look(2, what));
        }
        edges.sentence("Promise 10", "or if there is none such");
        due("look(3, 1), the last field", m.look(3, 1), 0);
        for (int f : new int[] {-1, 4, 199, 200, LOW, HIGH}) {
            for (int what = 0; what <= 3; what++) {
                int w = what;
                due("look(" + f + ", " + w + ")", m.look(f, w), NONE);
            }
            refused("look(" + f + ", 3)", NONE, LookEdgesTest::mixed, z -> z.look(f, 3));
        }
        Watched fewer = Edges.made(z -> z.grid(12, 12));
        fewer.grid(1, 1);
        due("look(1, 1) where there were more once", fewer.look(1, 1), NONE);
        Watched full = Edges.made(z -> z.fields(200));
        due("look(199, 0) of 200", full.look(199, 0), 0);
        due("look(200, 0) of 200", full.look(200, 0), NONE);
    }

    private static void promise11() {
        edges.sentence("Promise 11", "0 whether it is OPEN (1)");
        Watched m = Edges.made(LookEdgesTest::mixed);
        due("ask(0, 0), drawn", m.ask(0, 0), 0);
        due("ask(2, 0), open", m.ask(2, 0), 1);
        due("ask(4, 0), undone", m.ask(4, 0), 1);
        edges.sentence("Promise 11", "1 its first FIELD, 2 its second (NONE outside)");
        due("ask(1, 1)", m.ask(1, 1), 0);
        due("ask(1, 2)", m.ask(1, 2), 1);
        due("ask(2, 1)", m.ask(2, 1), 1);
        due("ask(2, 2) outside", m.ask(2, 2), NONE);

        edges.sentence("Promise 11", "3 how many FIELDS it would CLOSE (0 if it is not OPEN)");
        Watched x = Edges.made(y -> y.chain(2));
        due("ask(1, 3) of none", x.ask(1, 3), 0);
        x.draw(0);
        due("ask(1, 3) of the first", x.ask(1, 3), 1);
        due("ask(2, 3) of none", x.ask(2, 3), 0);
        x.draw(2);
        due("ask(1, 3) of both", x.ask(1, 3), 2);
        due("ask(2, 3) when drawn beside one with one side left", x.ask(2, 3), 0);
        x.draw(1);
        due("ask(1, 3) when drawn", x.ask(1, 3), 0);
        due("ask(2, 3) when all are drawn", x.ask(2, 3), 0);
        Watched second = Edges.made(y -> y.chain(2));
        second.draw(2);
        due("ask(1, 3) of the second", second.ask(1, 3), 1);

        edges.sentence("Promise 11", "NONE likewise.");
        due("ask(6, 3), the last side and what", m.ask(6, 3), 0);
        for (int what : new int[] {-1, 4, 5, LOW, HIGH}) {
            refused("ask(2, " + what + ")", NONE, LookEdgesTest::mixed, z -> z.ask(2, what));
        }
        for (int s : new int[] {-1, 7, 499, 500, LOW, HIGH}) {
            for (int what = 0; what <= 3; what++) {
                due("ask(" + s + ", " + what + ")", m.ask(s, what), NONE);
            }
            refused("ask(" + s + ", 3)", NONE, LookEdgesTest::mixed, z -> z.ask(s, 3));
        }
        Watched fewer = Edges.made(z -> z.grid(12, 12));
        fewer.grid(1, 1);
        due("ask(4, 0) where there were more once", fewer.ask(4, 0), NONE);
    }

    private static void promise12() {
        edges.sentence("Promise 12", "The i-th draw (from 0 on) of those done: its SIDE.");
        Watched m = Edges.made(LookEdgesTest::mixed);
        due("drawn(0)", m.drawn(0), 0);
        due("drawn(1)", m.drawn(1), 1);
        due("drawn(2), the last of three done", m.drawn(2), 3);
        edges.sentence("Promise 12", "NoSuchElementException: there is none such.");
        for (int i : new int[] {-1, 3, 4, 499, 500, LOW, HIGH}) {
            refused("drawn(" + i + ")", Watched.THROWN, LookEdgesTest::mixed, z -> z.drawn(i));
        }
        m.redo();
        due("drawn(3) when redone", m.drawn(3), 4);
        refused("drawn(0) with nothing drawn", Watched.THROWN, z -> z.grid(1, 1), z -> z.drawn(0));
        refused("drawn(0) of an empty meadow", Watched.THROWN, z -> { }, z -> z.drawn(0));
        Watched all = Edges.made(z -> z.grid(12, 12));
        for (int s = 311; s >= 0; s--) {
            all.draw(s);
        }
        due("drawn(311) of 312", all.drawn(311), 0);
        due("drawn(312) of 312", all.drawn(312), Watched.THROWN);
        all.clear();
        due("drawn(0) behind clear()", all.drawn(0), Watched.THROWN);
    }

    private static void promise13() {
        edges.sentence("Promise 13", "0: 0 CHAIN, 1 RING, 2 KNOT; 1 how many FIELDS, 2 OPEN SIDES");
        Watched x = new Watched();
        x.ring(2);
        x.knot();
        x.chainWithOneLoose(1);
        duePart(x, 0, RING, 2, 2, 0, 0);
        duePart(x, 1, KNOT, 1, 3, 0, 2);
        duePart(x, 2, CHAIN, 1, 1, 1, 3);
        duePart(Edges.made(y -> y.grid(12, 12)), 0, KNOT, 144, 312, 0, 0);

        edges.sentence("Promise 13", "3 LOOSE (of others 0)");
        Watched knot = new Watched();
        knot.fields(3);
        knot.side(0, 1);
        knot.side(0, 2);
        knot.side(0, NONE);
        due("part(0, 3) of a knot with two ends", knot.part(0, 3), 0);
        due("part(0, 0) of a knot with two ends", knot.part(0, 0), KNOT);
        knot.draw(2);
        due("part(0, 3) when it is untied", knot.part(0, 3), 2);

        edges.sentence("Promise 13", "NONE likewise.");
        due("part(1, 4), the last part and what", Edges.made(LookEdgesTest::mixed).part(1, 4), 2);
        for (int what : new int[] {-1, 5, 6, LOW, HIGH}) {
            refused("part(1, " + what + ")", NONE, LookEdgesTest::mixed, z -> z.part(1, what));
        }
        for (int i : new int[] {-1, 2, 3, 199, 200, LOW, HIGH}) {
            refused("part(" + i + ", 0)", NONE, LookEdgesTest::mixed, z -> z.part(i, 0));
            for (int what = 0; what <= 4; what++) {
                due("part(" + i + ", " + what + ")", Edges.made(LookEdgesTest::mixed).part(i, what), NONE);
            }
        }
        refused("part(0, 0) without sides", NONE, z -> z.fields(3), z -> z.part(0, 0));
        Edges.Change parts200 = z -> {
            z.fields(200);
            for (int f = 0; f < 200; f++) {
                z.side(f, NONE);
            }
        };
        Watched most = Edges.made(parts200);
        due("part(199, 4) of 200", most.part(199, 4), 199);
        due("part(200, 4) of 200", most.part(200, 4), NONE);
        due("count(6) of 200", most.count(6), 200);
        due("loose() of 200", most.loose(), 200);
        due("look(199, 3) of 200", most.look(199, 3), 199);
        most.draw(0);
        due("part(198, 4) of 199", most.part(198, 4), 199);
        due("part(199, 4) of 199", most.part(199, 4), NONE);
    }

    private static void promise14() {
        edges.sentence("Promise 14", "How many FIELDS can be CLOSED, one draw after the other");
        due("loose() of an empty meadow", new Watched().loose(), 0);
        due("loose() without sides", Edges.made(x -> x.fields(200)).loose(), 0);
        due("loose() of one with one side", Edges.made(x -> x.chainWithOneLoose(1)).loose(), 1);
        due("loose() of one with two sides", Edges.made(x -> x.chain(1)).loose(), 0);
        due("loose() of two that share one", Edges.made(x -> x.chainWithTwoLoose(2)).loose(), 2);
        due("loose() of a ring of two", Edges.made(x -> x.ring(2)).loose(), 0);
        due("loose() of 200 with one loose", Edges.made(x -> x.chainWithOneLoose(200)).loose(), 200);
        due("loose() of 200 with two loose", Edges.made(x -> x.chainWithTwoLoose(200)).loose(), 200);
        due("loose() of a grid", Edges.made(x -> x.grid(12, 12)).loose(), 0);

        edges.sentence("Promise 14", "each CLOSING at least one");
        Watched x = new Watched();
        // A chain with one loose runs into a ring of two: the field where they meet has three.
        x.fields(4);
        x.side(0, 1);
        x.side(1, 2);
        x.side(2, 3);
        x.side(3, 2);
        due("loose() up to a knot", x.loose(), 2);
        x.draw(2);
        due("loose() through it", x.loose(), 4);
        x.undo();
        due("loose() up to it again", x.loose(), 2);
        x.draw(0);
        due("loose() with one closed", x.loose(), 1);
        x.draw(1);
        due("loose() with a ring left", x.loose(), 0);
        Watched star = new Watched();
        star.fields(5);
        for (int f = 1; f < 5; f++) {
            star.side(0, f);
        }
        due("loose() of a star", star.loose(), 5);
        due("count(3) is as it was", star.count(3), 0);
    }

    private static void promise21() {
        edges.sentence("Promise 21", "CHAINS of three FIELDS and more without LOOSE ones");
        due("longs() of an empty meadow", new Watched().longs(), 0);
        for (int length : new int[] {1, 2, 3, 4, 200}) {
            due("longs() of a chain of " + length, Edges.made(x -> x.chain(length)).longs(), length >= 3 ? 1 : 0);
            due("longs() with one loose of " + length, Edges.made(x -> x.chainWithOneLoose(length)).longs(), 0);
        }
        for (int length : new int[] {2, 3, 4, 5}) {
            due("longs() with two loose of " + length, Edges.made(x -> x.chainWithTwoLoose(length)).longs(), 0);
        }
        edges.sentence("Promise 21", "and RINGS");
        for (int length : new int[] {2, 3, 4, 200}) {
            due("longs() of a ring of " + length, Edges.made(x -> x.ring(length)).longs(), 1);
        }
        due("longs() of a knot", Edges.made(x -> x.grid(12, 12)).longs(), 0);
        Watched x = new Watched();
        x.knot();
        x.ring(2);
        x.chain(3);
        x.chain(2);
        x.ring(3);
        due("longs() beside a knot", x.longs(), 3);
        x.draw(3);
        due("longs() with the ring of two opened", x.longs(), 2);
    }

    private static void promise22() {
        edges.sentence("Promise 22", "0 FIELDS, 1 SIDES, 2 OPEN SIDES, 3 CLOSED FIELDS, 4 draws, 5 draws that can be redone");
        int[] want = {4, 7, 4, 1, 3, 1, 2, 0, 0, 1};
        Watched m = Edges.made(LookEdgesTest::mixed);
        for (int what = 0; what <= 5; what++) {
            due("count(" + what + ")", m.count(what), want[what]);
        }
        edges.sentence("Promise 22", "6 PARTS, 7 whether it is SIMPLE (1), 8 FIELDS of PLAYER 0, 9 of 1");
        for (int what = 6; what <= 9; what++) {
            due("count(" + what + ")", m.count(what), want[what]);
        }
        m.redo();
        due("count(5) with nothing undone", m.count(5), 0);
        due("count(7) with two of the four left", m.count(7), 1);
        edges.sentence("Promise 22", "NONE for others.");
        for (int what : new int[] {-1, 10, 11, LOW, HIGH}) {
            refused("count(" + what + ")", NONE, LookEdgesTest::mixed, z -> z.count(what));
        }
    }

    public static void main(String[] args) {
        theTermsOfParts();
        theTermsOfChains();
        theTermsOfRingsAndKnots();
        promise10();
        promise11();
        promise12();
        promise13();
        promise14();
        promise21();
        promise22();
        edges.end();
    }
}
