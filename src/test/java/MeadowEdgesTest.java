/** The edges that the document names of fields, sides and draws: Terms 1 and promises 1 to 9. */
public final class MeadowEdgesTest {
    private static final int NONE = Edges.NONE;
    private static final int UNTOLD = Edges.UNTOLD;
    private static final int LOW = Edges.LOW;
    private static final int HIGH = Edges.HIGH;
    private static final Edges edges = new Edges();

    private static void due(String call, int got, int want) {
        edges.due(call, got, want);
    }

    private static void refused(String name, int want, Edges.Change state, Edges.Call call) {
        edges.refused(name, want, state, call);
    }

    /** Three fields: the first with one side, all with sides between them, none drawn. */
    private static void small(Watched x) {
        x.fields(3);
        x.side(0, NONE);
        x.side(0, 1);
        x.side(1, 2);
        x.side(2, NONE);
        x.heap(false, 3, 2);
        x.heap(true, 4, 1);
    }

    private static void smallWithADraw(Watched x) {
        small(x);
        x.draw(0);
    }

    private static void smallWithOneUndone(Watched x) {
        small(x);
        x.draw(0);
        x.undo();
    }

    private static void smallWithDrawsDoneAndUndone(Watched x) {
        small(x);
        x.draw(0);
        x.draw(1);
        x.draw(3);
        x.draw(2);
        x.undo();
        x.undo();
    }

    private static void smallAllDrawn(Watched x) {
        small(x);
        for (int s = 0; s < 4; s++) {
            x.draw(s);
        }
    }

    /** Both players own a field. */
    private static void bothOwnOne(Watched x) {
        x.chainWithOneLoose(1);
        x.chain(1);
        x.chain(1);
        for (int s = 0; s < 4; s++) {
            x.draw(s);
        }
    }

    private static void with200Fields(Watched x) {
        x.grid(12, 12);
        x.fields(56);
    }

    /** 312 sides of the grid and 188 of the fields behind it, the last nine of which have none. */
    private static void with500Sides(Watched x) {
        with200Fields(x);
        for (int s = 312; s < 500; s++) {
            x.side(144 + (s - 312) / 4, NONE);
        }
    }

    private static void theConstants() {
        edges.sentence("The constants", "NONE = -1: There is none.");
        due("NONE", FenceBench.NONE, -1);
        edges.sentence("The constants", "UNTOLD = 1000: It is not told.");
        due("UNTOLD", FenceBench.UNTOLD, 1000);
    }

    private static void usedFor512Calls() {
        edges.sentence("What it is", "An object is used for at most 512 calls after it has been made");
        Watched x = new Watched();
        x.grid(12, 12);
        for (int s = 0; s < 312; s++) {
            x.draw(s);
        }
        for (int s = 311; x.callsLeft() > 0; s--) {
            due("undo() with " + x.callsLeft() + " calls left", x.undo(), s);
        }
        Watched y = new Watched();
        while (y.callsLeft() > 7) {
            y.grid(12, 12);
        }
        y.grid(1, 5);
        y.draw(15);
        y.simple();
        y.heap(true, 200, 1);
        due("value() as the 510th call", y.value(), -200);
        due("count(2) as the 511th call", y.count(2), 15);
        due("part(0, 4) as the 512th call", y.part(0, 4), 0);
        due("calls left", y.callsLeft(), 0);
    }

    private static void theTermsOfFieldsAndSides() {
        edges.sentence("Terms 1", "FIELDS 0, 1, .. (200 at most)");
        Watched x = new Watched();
        for (int f = 0; f < 200; f++) {
            due("field() with " + f, x.field(), f);
        }
        due("look(199, 1)", x.look(199, 1), 0);
        due("look(200, 1)", x.look(200, 1), NONE);
        refused("field() with 200", NONE, y -> y.fields(200), Watched::field);

        edges.sentence("Terms 1", "SIDES 0, 1, .. (500 at most)");
        Watched y = new Watched();
        with200Fields(y);
        for (int s = 312; s < 500; s++) {
            due("side() with " + s, y.side(144 + (s - 312) / 4, NONE), s);
        }
        due("count(1)", y.count(1), 500);
        due("ask(499, 0)", y.ask(499, 0), 1);
        due("ask(500, 0)", y.ask(500, 0), NONE);
        due("draw(499)", y.draw(499), 0);
        due("draw(500)", y.draw(500), NONE);
        due("drawn(0)", y.drawn(0), 499);
        refused("side(199, -1) with 500", NONE, MeadowEdgesTest::with500Sides, z -> z.side(199, NONE));

        edges.sentence("Terms 1", "each of one FIELD (and outside) or of two different ones");
        Watched z = new Watched();
        z.fields(2);
        due("side(0, -1)", z.side(0, NONE), 0);
        due("side(0, 1)", z.side(0, 1), 1);
        due("side(1, 0)", z.side(1, 0), 2);
        refused("side(1, 1)", NONE, MeadowEdgesTest::small, w -> w.side(1, 1));
        refused("side(-1, -1)", NONE, MeadowEdgesTest::small, w -> w.side(NONE, NONE));
    }

    private static void theTermsOfFourSides() {
        edges.sentence("Terms 1", "a FIELD has 4 SIDES at most (two FIELDS may share several)");
        Watched x = new Watched();
        x.fields(3);
        for (int s = 0; s < 4; s++) {
            due("side(0, 1) with " + s, x.side(s % 2, 1 - s % 2), s);
        }
        due("look(0, 1)", x.look(0, 1), 4);
        due("look(1, 1)", x.look(1, 1), 4);
        for (int s = 4; s < 8; s++) {
            due("side(2, -1) with " + (s - 4), x.side(2, NONE), s);
        }
        due("look(2, 1)", x.look(2, 1), 4);
        Edges.Change full = y -> {
            y.fields(3);
            for (int s = 0; s < 4; s++) {
                y.side(0, 1);
            }
        };
        refused("side(0, 1) of two with 4", NONE, full, y -> y.side(0, 1));
        refused("side(0, -1) of one with 4", NONE, full, y -> y.side(0, NONE));
        refused("side(0, 2) of one with 4", NONE, full, y -> y.side(0, 2));
        refused("side(2, 1) of one with 4", NONE, full, y -> y.side(2, 1));
    }

    private static void theTermsOfOpenAndClosed() {
        edges.sentence("Terms 1", "A SIDE is OPEN till it is drawn");
        Watched x = Edges.made(MeadowEdgesTest::small);
        due("ask(0, 0)", x.ask(0, 0), 1);
        x.draw(0);
        due("ask(0, 0) when drawn", x.ask(0, 0), 0);
        due("ask(1, 0) beside it", x.ask(1, 0), 1);
        x.undo();
        due("ask(0, 0) when undone", x.ask(0, 0), 1);
        x.redo();
        due("ask(0, 0) when redone", x.ask(0, 0), 0);

        edges.sentence("Terms 1", "CLOSED by the draw that took the last one");
        for (int sides = 1; sides <= 4; sides++) {
            Watched y = new Watched();
            y.field();
            for (int s = 0; s < sides; s++) {
                y.side(0, NONE);
            }
            for (int s = sides - 1; s > 0; s--) {
                due("draw(" + s + ") of " + sides, y.draw(s), 0);
                due("count(3) with " + s + " left", y.count(3), 0);
                due("look(0, 2) with " + s + " left", y.look(0, 2), NONE);
            }
            due("draw(0) of " + sides, y.draw(0), 1);
            due("count(3) with none left", y.count(3), 1);
            due("look(0, 2) with none left", y.look(0, 2), (sides - 1) % 2);
        }

        edges.sentence("Terms 1", "(a FIELD without SIDES is never CLOSED)");
        Watched z = new Watched();
        z.fields(3);
        z.side(1, NONE);
        due("count(3)", z.count(3), 0);
        z.draw(0);
        due("count(3) with all drawn", z.count(3), 1);
        due("count(8) with all drawn", z.count(8), 1);
        due("count(9) with all drawn", z.count(9), 0);
        for (int f = 0; f <= 2; f += 2) {
            due("look(" + f + ", 0)", z.look(f, 0), 0);
            due("look(" + f + ", 1)", z.look(f, 1), 0);
            due("look(" + f + ", 2)", z.look(f, 2), NONE);
            due("look(" + f + ", 3)", z.look(f, 3), NONE);
        }
    }

    private static void theTermsOfTurns() {
        edges.sentence("Terms 1", "PLAYERS 0 and 1; 0 draws first.");
        due("whose()", Edges.made(MeadowEdgesTest::small).whose(), 0);
        due("whose() in a grid", Edges.made(x -> x.grid(12, 12)).whose(), 0);

        edges.sentence("Terms 1", "draws again if there are any; else it is the other's turn");
        Watched x = new Watched();
        x.chainWithTwoLoose(2);
        x.chain(1);
        x.chainWithOneLoose(1);
        x.chain(1);
        due("draw(1) closing none", x.draw(1), 0);
        due("whose() behind none", x.whose(), 1);
        due("draw(0) closing two", x.draw(0), 2);
        due("whose() behind two", x.whose(), 1);
        due("draw(3) closing one", x.draw(3), 1);
        due("whose() behind one", x.whose(), 1);
        due("draw(4) closing none", x.draw(4), 0);
        due("whose() behind none", x.whose(), 0);
        due("count(8)", x.count(8), 0);
        due("count(9)", x.count(9), 3);
        due("draw(5)", x.draw(5), 1);
        due("count(8)", x.count(8), 1);

        edges.sentence("Terms 1", "(Behind the last SIDE it is nobody's.)");
        Watched y = Edges.made(MeadowEdgesTest::small);
        for (int s = 0; s < 3; s++) {
            y.draw(s);
        }
        due("whose() with one left", y.whose(), 1);
        due("draw(3), the last", y.draw(3), 1);
        due("whose() behind the last", y.whose(), NONE);
        due("undo()", y.undo(), 3);
        due("whose() with one left again", y.whose(), 1);
        y.redo();
        due("whose() behind the last again", y.whose(), NONE);
    }

    private static void dueEmptyMeadow(Watched x) {
        for (int what = 0; what <= 9; what++) {
            due("count(" + what + ")", x.count(what), what == 7 ? 1 : 0);
        }
        due("whose()", x.whose(), NONE);
        due("undo()", x.undo(), NONE);
        due("redo()", x.redo(), NONE);
        due("draw(0)", x.draw(0), NONE);
        due("side(0, -1)", x.side(0, NONE), NONE);
        due("look(0, 1)", x.look(0, 1), NONE);
        due("ask(0, 1)", x.ask(0, 1), NONE);
        due("drawn(0)", x.drawn(0), Watched.THROWN);
        due("part(0, 1)", x.part(0, 1), NONE);
        due("loose()", x.loose(), 0);
        due("worth()", x.worth(), 0);
        due("worthOf(0)", x.worthOf(0), UNTOLD);
        due("best(0)", x.best(0), NONE);
        due("simple()", x.simple(), 0);
        due("keep()", x.keep(), UNTOLD);
        due("give(0)", x.give(0), NONE);
        due("longs()", x.longs(), 0);
    }

    private static void promise1() {
        edges.sentence("Promise 1", "No FIELDS; an empty HEAP.");
        Watched x = new Watched();
        dueEmptyMeadow(x);
        due("value()", x.value(), 0);
        due("open(0)", x.open(0), NONE);
        Watched other = new Watched();
        with200Fields(x);
        x.heap(false, 5, 100);
        dueEmptyMeadow(other);
        due("value() of another object", other.value(), 0);
        due("heap(false, 5, 1) of another object", other.heap(false, 5, 1), 1);
    }

    private static void promise2() {
        edges.sentence("Promise 2", "The MEADOW is empty again, nothing drawn.");
        Edges.Change[] states = {x -> { }, MeadowEdgesTest::small, MeadowEdgesTest::smallWithADraw,
            MeadowEdgesTest::smallWithOneUndone, MeadowEdgesTest::smallWithDrawsDoneAndUndone,
            MeadowEdgesTest::smallAllDrawn, MeadowEdgesTest::bothOwnOne, MeadowEdgesTest::with500Sides};
        for (Edges.Change state : states) {
            Watched x = Edges.made(state);
            x.worth();
            x.simple();
            x.loose();
            int value = x.value();
            x.clear();
            dueEmptyMeadow(x);
            due("value(), as the HEAP is no MEADOW", x.value(), value);
            due("field() of the new meadow", x.field(), 0);
            due("field() of the new meadow", x.field(), 1);
            due("side(0, 1) of the new meadow", x.side(0, 1), 0);
            due("whose() in the new meadow", x.whose(), 0);
            due("look(0, 2) in the new meadow", x.look(0, 2), NONE);
            due("worth() in the new meadow", x.worth(), 2);
            due("simple() in the new meadow", x.simple(), 2);
            due("draw(0) in the new meadow", x.draw(0), 2);
            due("count(8) in the new meadow", x.count(8), 2);
            due("count(9) in the new meadow", x.count(9), 0);
        }
        Watched y = Edges.made(MeadowEdgesTest::with500Sides);
        y.clear();
        for (int f = 0; f < 200; f++) {
            due("field() in place of one of 200", y.field(), f);
        }
        due("field() with 200 again", y.field(), NONE);
    }

    private static void promise3() {
        edges.sentence("Promise 3", "NONE: there are 200");
        Watched x = Edges.made(y -> y.grid(12, 12));
        for (int f = 144; f < 200; f++) {
            due("field() with " + f, x.field(), f);
        }
        refused("field() with 200", NONE, MeadowEdgesTest::with200Fields, Watched::field);

        edges.sentence("Promise 3", "or a SIDE was drawn already");
        due("field() with none drawn", Edges.made(MeadowEdgesTest::small).field(), 3);
        Watched y = Edges.made(MeadowEdgesTest::small);
        y.draw(4);
        y.undo();
        y.redo();
        due("field() with refused draws alone", y.field(), 3);
        refused("field() with a draw", NONE, MeadowEdgesTest::smallWithADraw, Watched::field);
        refused("field() with all drawn", NONE, MeadowEdgesTest::smallAllDrawn, Watched::field);

        edges.sentence("Promise 3", "(or undone: there is something to redo)");
        refused("field() with one undone", NONE, MeadowEdgesTest::smallWithOneUndone, Watched::field);
        Watched z = Edges.made(MeadowEdgesTest::smallWithOneUndone);
        z.clear();
        due("field() behind clear()", z.field(), 0);
        z.side(0, NONE);
        z.draw(0);
        z.undo();
        z.grid(1, 1);
        due("field() behind grid()", z.field(), 1);
    }

    private static void promise4() {
        edges.sentence("Promise 4", "or of a and outside (b NONE)");
        Watched x = new Watched();
        x.fields(2);
        due("side(1, -1)", x.side(1, NONE), 0);
        due("ask(0, 1)", x.ask(0, 1), 1);
        due("ask(0, 2)", x.ask(0, 2), NONE);
        due("side(1, 0)", x.side(1, 0), 1);
        due("ask(1, 1)", x.ask(1, 1), 1);
        due("ask(1, 2)", x.ask(1, 2), 0);
        refused("side(-1, 0), outside first", NONE, MeadowEdgesTest::small, y -> y.side(NONE, 0));
        refused("side(0, -2)", NONE, MeadowEdgesTest::small, y -> y.side(0, -2));

        edges.sentence("Promise 4", "NONE likewise (500)");
        Edges.Change with499 = y -> {
            with200Fields(y);
            for (int s = 312; s < 499; s++) {
                y.side(144 + (s - 312) / 4, NONE);
            }
        };
        due("side(198, 199) with 499", Edges.made(with499).side(198, 199), 499);
        due("side(198, -1) with 499", Edges.made(with499).side(198, NONE), 499);
        refused("side(198, 199) with 500", NONE, MeadowEdgesTest::with500Sides, y -> y.side(198, 199));
        refused("side(199, -1) with 500", NONE, MeadowEdgesTest::with500Sides, y -> y.side(199, NONE));
        due("side(0, 2) with none drawn", Edges.made(MeadowEdgesTest::small).side(0, 2), 4);
        refused("side(0, 2) with a draw", NONE, MeadowEdgesTest::smallWithADraw, y -> y.side(0, 2));
        refused("side(0, -1) with all drawn", NONE, MeadowEdgesTest::smallAllDrawn, y -> y.side(0, NONE));
        refused("side(0, 2) with one undone", NONE, MeadowEdgesTest::smallWithOneUndone, y -> y.side(0, 2));

        edges.sentence("Promise 4", "there is no such FIELD");
        due("side(0, 2) of the first and the last", Edges.made(MeadowEdgesTest::small).side(0, 2), 4);
        due("side(2, 0) of the last and the first", Edges.made(MeadowEdgesTest::small).side(2, 0), 4);
        for (int f : new int[] {3, 4, 199, 200, -2, LOW, HIGH}) {
            refused("side(" + f + ", 0)", NONE, MeadowEdgesTest::small, y -> y.side(f, 0));
            refused("side(" + f + ", -1)", NONE, MeadowEdgesTest::small, y -> y.side(f, NONE));
            refused("side(0, " + f + ")", NONE, MeadowEdgesTest::small, y -> y.side(0, f));
        }
        refused("side(0, -1) without fields", NONE, y -> { }, y -> y.side(0, NONE));
        Edges.Change fewer = y -> {
            with200Fields(y);
            y.grid(1, 1);
            y.field();
        };
        refused("side(1, 2) where there were more fields once", NONE, fewer, y -> y.side(1, 2));

        edges.sentence("Promise 4", "a is b");
        for (int f = 0; f < 3; f++) {
            int same = f;
            refused("side(" + f + ", " + f + ")", NONE, MeadowEdgesTest::small, y -> y.side(same, same));
        }

        edges.sentence("Promise 4", "or one has 4");
        Edges.Change three = y -> {
            y.fields(2);
            for (int s = 0; s < 3; s++) {
                y.side(0, NONE);
            }
        };
        due("side(0, -1) of one with 3", Edges.made(three).side(0, NONE), 3);
        due("side(0, 1) of one with 3", Edges.made(three).side(0, 1), 3);
        due("side(1, 0) of one with 3", Edges.made(three).side(1, 0), 3);
        Edges.Change four = y -> y.with(three).side(1, 0);
        refused("side(0, -1) of one with 4", NONE, four, y -> y.side(0, NONE));
        refused("side(0, 1) of one with 4", NONE, four, y -> y.side(0, 1));
        refused("side(1, 0) of one with 4", NONE, four, y -> y.side(1, 0));
        due("side(1, -1) beside one with 4", Edges.made(four).side(1, NONE), 4);
        refused("side(0, -1) in a grid", NONE, y -> y.grid(2, 2), y -> y.side(0, NONE));
    }

    private static void promise5() {
        edges.sentence("Promise 5", "rows times columns FIELDS (each 1 .. 12)");
        int[][] sizes = {{1, 1}, {1, 12}, {12, 1}, {12, 12}, {11, 12}, {2, 1}};
        for (int[] size : sizes) {
            int rows = size[0];
            int columns = size[1];
            Watched x = Edges.made(MeadowEdgesTest::smallWithDrawsDoneAndUndone);
            due("grid(" + rows + ", " + columns + ")", x.grid(rows, columns), 1);
            int sides = (rows + 1) * columns + rows * (columns + 1);
            int[] want = {rows * columns, sides, sides, 0, 0, 0, 1, 0, 0, 0};
            for (int what = 0; what < want.length; what++) {
                due("count(" + what + ") of " + rows + " by " + columns, x.count(what), want[what]);
            }
            due("whose() of the new one", x.whose(), 0);
            due("undo() of the new one", x.undo(), NONE);
            due("redo() of the new one", x.redo(), NONE);
            // To open a chain: 3 - 1 is worth more than 3 - 4 + 1.
            due("value(), as the HEAP is no MEADOW", x.value(), -2);
        }

        edges.sentence("Promise 5", "The MEADOW is a new one");
        Watched y = Edges.made(MeadowEdgesTest::bothOwnOne);
        due("count(8) of the old one", y.count(8), 1);
        due("count(9) of the old one", y.count(9), 1);
        y.grid(1, 2);
        due("count(8) of the new one", y.count(8), 0);
        due("count(9) of the new one", y.count(9), 0);
        due("look(0, 2) of the new one", y.look(0, 2), NONE);
        Watched z = Edges.made(MeadowEdgesTest::small);
        due("worth() of a chain of 3", z.worth(), -3);
        due("simple() of a chain of 3", z.simple(), -3);
        due("part(0, 1) of a chain of 3", z.part(0, 1), 3);
        z.grid(1, 1);
        due("worth() of 1 by 1, with as many sides", z.worth(), -1);
        due("simple() of 1 by 1, with as many sides", z.simple(), UNTOLD);
        due("part(0, 1) of 1 by 1, with as many sides", z.part(0, 1), 1);

        edges.sentence("Promise 5", "False: out of bounds.");
        int[][] bad = {{0, 1}, {1, 0}, {0, 0}, {13, 1}, {1, 13}, {13, 12}, {12, 13}, {13, 13}, {-1, 1}, {1, -1},
            {-1, -1}, {LOW, 1}, {1, LOW}, {HIGH, 1}, {1, HIGH}, {LOW, LOW}, {65536, 65536}};
        for (int[] b : bad) {
            refused("grid(" + b[0] + ", " + b[1] + ")", 0, MeadowEdgesTest::smallWithDrawsDoneAndUndone,
                    x -> x.grid(b[0], b[1]));
        }
        refused("grid(13, 12) of an empty meadow", 0, x -> { }, x -> x.grid(13, 12));
    }

    private static void promise5Numbers() {
        edges.sentence("Promise 5", "all above and below FIELDS first, row by row of posts");
        Watched x = Edges.made(y -> y.grid(12, 12));
        dueSide(x, 0, 0, NONE);
        dueSide(x, 11, 11, NONE);
        dueSide(x, 12, 0, 12);
        dueSide(x, 143, 131, 143);
        dueSide(x, 144, 132, NONE);
        dueSide(x, 155, 143, NONE);
        edges.sentence("Promise 5", "then those left and right, row by row of FIELDS");
        dueSide(x, 156, 0, NONE);
        dueSide(x, 157, 0, 1);
        dueSide(x, 167, 10, 11);
        dueSide(x, 168, 11, NONE);
        dueSide(x, 169, 12, NONE);
        dueSide(x, 310, 142, 143);
        dueSide(x, 311, 143, NONE);
        due("ask(312, 1)", x.ask(312, 1), NONE);
        Watched one = Edges.made(y -> y.grid(1, 1));
        for (int s = 0; s < 4; s++) {
            dueSide(one, s, 0, NONE);
        }
        Watched row = Edges.made(y -> y.grid(1, 12));
        dueSide(row, 12, 0, NONE);
        dueSide(row, 24, 0, NONE);
        dueSide(row, 25, 0, 1);
        dueSide(row, 36, 11, NONE);
        Watched column = Edges.made(y -> y.grid(12, 1));
        dueSide(column, 0, 0, NONE);
        dueSide(column, 1, 0, 1);
        dueSide(column, 12, 11, NONE);
        dueSide(column, 13, 0, NONE);
        dueSide(column, 36, 11, NONE);
    }

    private static void dueSide(Watched x, int side, int first, int second) {
        due("ask(" + side + ", 1)", x.ask(side, 1), first);
        due("ask(" + side + ", 2)", x.ask(side, 2), second);
    }

    private static void promise6() {
        edges.sentence("Promise 6", "NONE: there is no such SIDE");
        due("draw(0), the first", Edges.made(MeadowEdgesTest::small).draw(0), 0);
        due("draw(3), the last", Edges.made(MeadowEdgesTest::small).draw(3), 0);
        for (int s : new int[] {-1, 4, 5, 499, 500, LOW, HIGH}) {
            refused("draw(" + s + ")", NONE, MeadowEdgesTest::small, x -> x.draw(s));
            refused("draw(" + s + ")", NONE, MeadowEdgesTest::smallWithDrawsDoneAndUndone, x -> x.draw(s));
        }
        refused("draw(0) without sides", NONE, x -> x.fields(2), x -> x.draw(0));
        Edges.Change fewer = x -> {
            x.grid(12, 12);
            x.grid(1, 1);
        };
        due("draw(3) where there were more once", Edges.made(fewer).draw(3), 0);
        refused("draw(4) where there were more once", NONE, fewer, x -> x.draw(4));

        edges.sentence("Promise 6", "or it is not OPEN");
        refused("draw(0) again", NONE, MeadowEdgesTest::smallWithADraw, x -> x.draw(0));
        refused("draw(1) again", NONE, MeadowEdgesTest::smallWithDrawsDoneAndUndone, x -> x.draw(1));
        refused("draw(3) again, the last", NONE, MeadowEdgesTest::smallAllDrawn, x -> x.draw(3));
        due("draw(0) when undone", Edges.made(MeadowEdgesTest::smallWithOneUndone).draw(0), 0);

        edges.sentence("Promise 6", "(Nothing is to be redone then.)");
        for (int s : new int[] {2, 3}) {
            Watched x = Edges.made(MeadowEdgesTest::smallWithDrawsDoneAndUndone);
            due("count(5)", x.count(5), 2);
            x.draw(s);
            due("count(5) behind draw(" + s + ")", x.count(5), 0);
            due("redo() behind draw(" + s + ")", x.redo(), NONE);
            due("undo() behind draw(" + s + ")", x.undo(), s);
            due("count(5) behind undo()", x.count(5), 1);
            due("redo() behind undo()", x.redo(), s);
        }

        edges.sentence("Promise 6", "how many FIELDS it CLOSES");
        Watched y = new Watched();
        y.chainWithTwoLoose(2);
        y.chainWithTwoLoose(3);
        due("draw(0) closing two", y.draw(0), 2);
        due("draw(1) closing one", y.draw(1), 1);
        due("draw(2) closing the two behind it", y.draw(2), 2);
    }

    private static void promise7() {
        edges.sentence("Promise 7", "The latest draw is undone: its SIDE; NONE.");
        refused("undo() of an empty meadow", NONE, x -> { }, Watched::undo);
        refused("undo() with nothing drawn", NONE, MeadowEdgesTest::small, Watched::undo);
        refused("undo() with all undone", NONE, MeadowEdgesTest::smallWithOneUndone, Watched::undo);
        Watched x = Edges.made(MeadowEdgesTest::smallAllDrawn);
        for (int s = 3; s >= 0; s--) {
            due("undo()", x.undo(), s);
        }
        due("undo() behind the first", x.undo(), NONE);
        due("count(5)", x.count(5), 4);
        due("whose()", x.whose(), 0);
        Watched y = Edges.made(z -> z.grid(12, 12));
        for (int s = 311; s >= 212; s--) {
            y.draw(s);
        }
        for (int s = 212; s <= 311; s++) {
            due("undo() of a hundred", y.undo(), s);
        }
        due("undo() behind a hundred", y.undo(), NONE);
        due("count(3)", y.count(3), 0);
    }

    private static void promise8() {
        edges.sentence("Promise 8", "The draw that was undone latest is done again: its SIDE; NONE.");
        refused("redo() of an empty meadow", NONE, x -> { }, Watched::redo);
        refused("redo() with nothing drawn", NONE, MeadowEdgesTest::small, Watched::redo);
        refused("redo() with nothing undone", NONE, MeadowEdgesTest::smallWithADraw, Watched::redo);
        refused("redo() with all drawn", NONE, MeadowEdgesTest::smallAllDrawn, Watched::redo);
        Edges.Change allRedone = x -> {
            smallWithDrawsDoneAndUndone(x);
            x.redo();
            x.redo();
        };
        refused("redo() with all redone", NONE, allRedone, Watched::redo);
        Edges.Change drawnSince = x -> {
            smallWithDrawsDoneAndUndone(x);
            x.draw(2);
        };
        refused("redo() with a draw since", NONE, drawnSince, Watched::redo);
        Watched x = Edges.made(MeadowEdgesTest::smallAllDrawn);
        for (int s = 0; s < 4; s++) {
            x.undo();
        }
        for (int s = 0; s < 4; s++) {
            due("redo()", x.redo(), s);
        }
        due("redo() behind the last", x.redo(), NONE);
        due("count(9)", x.count(9), 3);
        due("whose()", x.whose(), NONE);
    }

    private static void promise9() {
        edges.sentence("Promise 9", "NONE: no SIDE is OPEN.");
        due("whose() of an empty meadow", new Watched().whose(), NONE);
        due("whose() without sides", Edges.made(x -> x.fields(200)).whose(), NONE);
        Watched x = Edges.made(y -> y.chainWithOneLoose(1));
        due("whose() with one side", x.whose(), 0);
        x.draw(0);
        due("whose() with all drawn", x.whose(), NONE);
        x.undo();
        due("whose() with one undone", x.whose(), 0);
        due("whose() with 500 sides", Edges.made(MeadowEdgesTest::with500Sides).whose(), 0);
        Watched y = Edges.made(MeadowEdgesTest::smallWithADraw);
        due("whose() behind a draw", y.whose(), 1);
        y.grid(1, 1);
        due("whose() behind grid()", y.whose(), 0);
    }

    public static void main(String[] args) {
        theConstants();
        usedFor512Calls();
        theTermsOfFieldsAndSides();
        theTermsOfFourSides();
        theTermsOfOpenAndClosed();
        theTermsOfTurns();
        promise1();
        promise2();
        promise3();
        promise4();
        promise5();
        promise5Numbers();
        promise6();
        promise7();
        promise8();
        promise9();
        edges.end();
    }
}
