import java.util.NoSuchElementException;

/** Every promise of the document by hand: ordinary inputs, the edges it names, and wrong inputs. */
public final class PromisesTest {
    private static final int NONE = FenceBench.NONE;
    private static final int UNTOLD = FenceBench.UNTOLD;
    private static final int LOW = Integer.MIN_VALUE;
    private static final int HIGH = Integer.MAX_VALUE;
    private static int wrong = 0;
    private static int promise = 0;

    private static void due(String call, long got, long want) {
        if (got != want) {
            wrong++;
            System.out.println("promise " + promise + ": " + call + " answered " + got + ", due is " + want);
        }
    }

    private static void due(String call, boolean got, boolean want) {
        due(call, got ? 1 : 0, want ? 1 : 0);
    }

    private static void dueNoDraw(FenceBench x, int i) {
        int thrown = 0;
        try {
            x.drawn(i);
        } catch (NoSuchElementException e) {
            thrown = 1;
        }
        due("drawn(" + i + ") throws", thrown, 1);
    }

    private static void dueValue(FenceBench x, int want) {
        long got;
        try {
            got = x.value();
        } catch (IllegalStateException e) {
            got = HIGH;
        }
        due("value()", got, want);
    }

    private static void dueUntoldValue(FenceBench x) {
        dueValue(x, HIGH);
    }

    private static void addFields(FenceBench x, int n) {
        for (int i = 0; i < n; i++) {
            x.field();
        }
    }

    /** A chain of new fields, both of its ends open to the outside; its first side is an end. */
    private static void addChain(FenceBench x, int length) {
        int from = x.count(0);
        addFields(x, length);
        x.side(from, NONE);
        for (int i = 1; i < length; i++) {
            x.side(from + i - 1, from + i);
        }
        x.side(from + length - 1, NONE);
    }

    private static void addRing(FenceBench x, int length) {
        int from = x.count(0);
        addFields(x, length);
        for (int i = 0; i < length; i++) {
            x.side(from + i, from + (i + 1) % length);
        }
    }

    private static FenceBench chain(int length) {
        FenceBench x = new FenceBench();
        addChain(x, length);
        return x;
    }

    private static FenceBench ring(int length) {
        FenceBench x = new FenceBench();
        addRing(x, length);
        return x;
    }

    private static FenceBench grid(int rows, int columns) {
        FenceBench x = new FenceBench();
        x.grid(rows, columns);
        return x;
    }

    private static void dueEmptyMeadow(FenceBench x) {
        int[] want = {0, 0, 0, 0, 0, 0, 0, 1, 0, 0};
        for (int what = 0; what < want.length; what++) {
            due("count(" + what + ")", x.count(what), want[what]);
        }
        due("whose()", x.whose(), NONE);
        due("undo()", x.undo(), NONE);
        due("redo()", x.redo(), NONE);
        due("look(0, 0)", x.look(0, 0), NONE);
        due("ask(0, 0)", x.ask(0, 0), NONE);
        due("part(0, 0)", x.part(0, 0), NONE);
        due("loose()", x.loose(), 0);
        due("worth()", x.worth(), 0);
        due("best(0)", x.best(0), NONE);
        due("simple()", x.simple(), 0);
        due("keep()", x.keep(), UNTOLD);
        due("give(0)", x.give(0), NONE);
        due("longs()", x.longs(), 0);
        dueNoDraw(x, 0);
    }

    private static void aNewObject() {
        FenceBench x = new FenceBench();
        dueEmptyMeadow(x);
        dueValue(x, 0);
        due("open(0)", x.open(0), NONE);
        FenceBench y = new FenceBench();
        x.field();
        x.heap(false, 3, 1);
        dueEmptyMeadow(y);
        dueValue(y, 0);
    }

    private static void clearing() {
        FenceBench x = grid(1, 1);
        x.heap(true, 4, 1);
        x.draw(0);
        x.draw(1);
        x.undo();
        x.worth();
        x.clear();
        dueEmptyMeadow(x);
        dueValue(x, -4);
        due("field()", x.field(), 0);
        due("look(0, 1)", x.look(0, 1), 0);
        due("look(0, 2)", x.look(0, 2), NONE);
        due("side(0, -1)", x.side(0, NONE), 0);
        due("whose()", x.whose(), 0);
        due("worth()", x.worth(), 1);
    }

    private static void clearingForgetsWhatWasWorkedOut() {
        FenceBench x = chain(3);
        due("worth()", x.worth(), -3);
        due("simple()", x.simple(), -3);
        x.clear();
        dueEmptyMeadow(x);
        addFields(x, 4);
        for (int f = 0; f < 4; f++) {
            x.side(f, NONE);
        }
        due("worth()", x.worth(), 4);
    }

    private static void fieldsAdded() {
        FenceBench x = new FenceBench();
        for (int f = 0; f < 200; f++) {
            due("field()", x.field(), f);
        }
        due("field()", x.field(), NONE);
        due("count(0)", x.count(0), 200);
        FenceBench y = grid(1, 1);
        due("field()", y.field(), 1);
        y.draw(0);
        due("field() with a draw", y.field(), NONE);
        y.undo();
        due("field() with one undone", y.field(), NONE);
        due("count(0)", y.count(0), 2);
    }

    private static void sidesAdded() {
        FenceBench x = new FenceBench();
        due("side(0, -1)", x.side(0, NONE), NONE);
        addFields(x, 3);
        int[][] bad = {{0, 0}, {NONE, 0}, {NONE, NONE}, {3, 0}, {0, 3}, {0, -2}, {-2, 0}, {HIGH, 0}, {0, LOW}};
        for (int[] b : bad) {
            due("side(" + b[0] + ", " + b[1] + ")", x.side(b[0], b[1]), NONE);
        }
        due("count(1)", x.count(1), 0);
        for (int s = 0; s < 3; s++) {
            due("side(0, 1)", x.side(0, 1), s);
        }
        due("side(0, -1)", x.side(0, NONE), 3);
        due("side(0, -1) of one with 4", x.side(0, NONE), NONE);
        due("side(2, 0) with one of 4", x.side(2, 0), NONE);
        due("look(2, 1)", x.look(2, 1), 0);
        due("side(2, 1)", x.side(2, 1), 4);
        due("ask(4, 1)", x.ask(4, 1), 2);
        due("ask(4, 2)", x.ask(4, 2), 1);
        x.draw(4);
        due("side with a draw", x.side(2, NONE), NONE);
        x.undo();
        due("side with one undone", x.side(2, NONE), NONE);
        due("count(1)", x.count(1), 5);
    }

    private static void sidesUpTo500() {
        FenceBench x = grid(12, 12);
        addFields(x, 56);
        // 312 sides of the grid, then 188 more on the new fields, which could bear 224.
        for (int s = 312; s < 500; s++) {
            due("side", x.side(144 + (s - 312) / 4, NONE), s);
        }
        due("side beyond 500", x.side(199, NONE), NONE);
        due("count(1)", x.count(1), 500);
        due("ask(499, 0)", x.ask(499, 0), 1);
        due("ask(500, 0)", x.ask(500, 0), NONE);
        due("draw(499)", x.draw(499), 0);
    }

    private static void grids() {
        FenceBench x = new FenceBench();
        x.field();
        int[][] bad = {{0, 1}, {1, 0}, {13, 1}, {1, 13}, {-1, 1}, {LOW, HIGH}, {HIGH, 1}};
        for (int[] b : bad) {
            due("grid(" + b[0] + ", " + b[1] + ")", x.grid(b[0], b[1]), false);
        }
        due("count(0)", x.count(0), 1);
        due("grid(12, 12)", x.grid(12, 12), true);
        due("count(0)", x.count(0), 144);
        due("count(1)", x.count(1), 312);
        x.draw(5);
        due("grid(2, 3)", x.grid(2, 3), true);
        due("count(4)", x.count(4), 0);
        due("whose()", x.whose(), 0);
        int[][] sides = {{0, NONE}, {1, NONE}, {2, NONE}, {0, 3}, {1, 4}, {2, 5}, {3, NONE}, {4, NONE}, {5, NONE},
            {0, NONE}, {0, 1}, {1, 2}, {2, NONE}, {3, NONE}, {3, 4}, {4, 5}, {5, NONE}};
        due("count(1)", x.count(1), sides.length);
        for (int s = 0; s < sides.length; s++) {
            due("ask(" + s + ", 1)", x.ask(s, 1), sides[s][0]);
            due("ask(" + s + ", 2)", x.ask(s, 2), sides[s][1]);
        }
        for (int f = 0; f < 6; f++) {
            due("look(" + f + ", 1)", x.look(f, 1), 4);
        }
    }

    private static void draws() {
        FenceBench x = new FenceBench();
        addFields(x, 3);
        x.side(0, 1);
        x.side(2, NONE);
        for (int s : new int[] {-1, 2, HIGH, LOW}) {
            due("draw(" + s + ")", x.draw(s), NONE);
        }
        due("draw(0) closing two", x.draw(0), 2);
        due("whose() again", x.whose(), 0);
        due("draw(0) again", x.draw(0), NONE);
        due("draw(1)", x.draw(1), 1);
        due("whose()", x.whose(), NONE);
        due("count(8)", x.count(8), 3);
        FenceBench y = grid(1, 1);
        due("draw(0)", y.draw(0), 0);
        due("whose()", y.whose(), 1);
        y.undo();
        due("a refused draw", y.draw(4), NONE);
        due("keeps what can be redone", y.count(5), 1);
        due("draw(1)", y.draw(1), 0);
        due("nothing is to be redone", y.count(5), 0);
        due("redo()", y.redo(), NONE);
    }

    private static void undos() {
        FenceBench x = chain(2);
        due("undo()", x.undo(), NONE);
        x.draw(0);
        x.draw(1);
        x.draw(2);
        due("count(9)", x.count(9), 2);
        due("undo()", x.undo(), 2);
        due("look(1, 2)", x.look(1, 2), NONE);
        due("look(0, 2)", x.look(0, 2), 1);
        due("whose()", x.whose(), 1);
        due("undo()", x.undo(), 1);
        due("whose()", x.whose(), 1);
        due("count(9)", x.count(9), 0);
        due("undo()", x.undo(), 0);
        due("whose()", x.whose(), 0);
        due("undo()", x.undo(), NONE);
        due("count(2)", x.count(2), 3);
        due("count(5)", x.count(5), 3);
    }

    private static void redos() {
        FenceBench x = chain(2);
        due("redo()", x.redo(), NONE);
        x.draw(2);
        x.draw(1);
        x.draw(0);
        x.undo();
        x.undo();
        x.undo();
        due("redo()", x.redo(), 2);
        due("whose()", x.whose(), 1);
        due("redo()", x.redo(), 1);
        due("look(1, 2)", x.look(1, 2), 1);
        due("count(5)", x.count(5), 1);
        due("redo()", x.redo(), 0);
        due("look(0, 2)", x.look(0, 2), 1);
        due("redo()", x.redo(), NONE);
        due("undo()", x.undo(), 0);
    }

    private static void turns() {
        FenceBench x = grid(1, 2);
        int[] sides = {0, 1, 2, 3, 4, 5, 6};
        int[] turnsBehind = {1, 0, 1, 0, 1, 1, NONE};
        due("whose()", x.whose(), 0);
        for (int i = 0; i < sides.length; i++) {
            x.draw(sides[i]);
            due("whose() behind draw " + i, x.whose(), turnsBehind[i]);
        }
        FenceBench y = new FenceBench();
        y.field();
        due("whose() without sides", y.whose(), NONE);
    }

    private static void looks() {
        FenceBench x = new FenceBench();
        addFields(x, 4);
        x.side(1, 2);
        x.side(3, NONE);
        x.side(3, NONE);
        due("look(0, 3) without sides", x.look(0, 3), NONE);
        due("look(0, 2) without sides", x.look(0, 2), NONE);
        due("look(0, 0)", x.look(0, 0), 0);
        due("look(1, 3)", x.look(1, 3), 0);
        due("look(2, 3)", x.look(2, 3), 0);
        due("look(3, 3)", x.look(3, 3), 1);
        x.draw(1);
        due("look(3, 0)", x.look(3, 0), 1);
        due("look(3, 1)", x.look(3, 1), 2);
        x.draw(0);
        due("look(1, 2)", x.look(1, 2), 1);
        due("look(2, 2)", x.look(2, 2), 1);
        due("look(1, 3) when closed", x.look(1, 3), NONE);
        due("look(3, 3) as the first part", x.look(3, 3), 0);
        for (int what : new int[] {-1, 4, LOW, HIGH}) {
            due("look(3, " + what + ")", x.look(3, what), NONE);
        }
        for (int f : new int[] {-1, 4, LOW, HIGH}) {
            due("look(" + f + ", 1)", x.look(f, 1), NONE);
        }
    }

    private static void asks() {
        FenceBench x = chain(2);
        due("ask(1, 0)", x.ask(1, 0), 1);
        due("ask(1, 1)", x.ask(1, 1), 0);
        due("ask(1, 2)", x.ask(1, 2), 1);
        due("ask(0, 2)", x.ask(0, 2), NONE);
        due("ask(1, 3)", x.ask(1, 3), 0);
        x.draw(0);
        due("ask(0, 0)", x.ask(0, 0), 0);
        due("ask(0, 3) when drawn", x.ask(0, 3), 0);
        due("ask(1, 3)", x.ask(1, 3), 1);
        x.draw(2);
        due("ask(1, 3) of both", x.ask(1, 3), 2);
        for (int what : new int[] {-1, 4, LOW, HIGH}) {
            due("ask(1, " + what + ")", x.ask(1, what), NONE);
        }
        for (int s : new int[] {-1, 3, LOW, HIGH}) {
            due("ask(" + s + ", 0)", x.ask(s, 0), NONE);
        }
    }

    private static void lineOfDraws() {
        FenceBench x = grid(1, 1);
        dueNoDraw(x, 0);
        x.draw(2);
        x.draw(0);
        due("drawn(0)", x.drawn(0), 2);
        due("drawn(1)", x.drawn(1), 0);
        for (int i : new int[] {-1, 2, LOW, HIGH}) {
            dueNoDraw(x, i);
        }
        x.undo();
        dueNoDraw(x, 1);
        x.redo();
        due("drawn(1)", x.drawn(1), 0);
    }

    private static void duePart(FenceBench x, int i, int... want) {
        for (int what = 0; what < want.length; what++) {
            due("part(" + i + ", " + what + ")", x.part(i, what), want[what]);
        }
    }

    private static void partsToldByLeastField() {
        FenceBench x = new FenceBench();
        addFields(x, 10);
        x.side(9, 1);
        x.side(1, 9);
        x.side(0, NONE);
        x.side(8, 2);
        x.side(2, 3);
        for (int i = 0; i < 3; i++) {
            x.side(4, NONE);
        }
        x.side(7, 6);
        x.side(6, NONE);
        duePart(x, 0, 0, 1, 1, 1, 0, NONE);
        duePart(x, 1, 1, 2, 2, 0, 1, NONE);
        duePart(x, 2, 0, 3, 2, 2, 2, NONE);
        duePart(x, 3, 2, 1, 3, 0, 4, NONE);
        duePart(x, 4, 0, 2, 2, 1, 6, NONE);
        duePart(x, 5, NONE, NONE, NONE, NONE, NONE);
        due("part(-1, 0)", x.part(-1, 0), NONE);
        due("part(0, -1)", x.part(0, -1), NONE);
        due("part(HIGH, LOW)", x.part(HIGH, LOW), NONE);
        due("part(LOW, 0)", x.part(LOW, 0), NONE);
        x.draw(2);
        duePart(x, 0, 1, 2, 2, 0, 1);
        x.draw(1);
        duePart(x, 0, 0, 2, 1, 2, 1);
        x.undo();
        duePart(x, 0, 1, 2, 2, 0, 1);
    }

    private static void knotsAndRings() {
        FenceBench x = ring(4);
        x.side(0, NONE);
        duePart(x, 0, 2, 4, 5, 0, 0);
        x.draw(4);
        duePart(x, 0, 1, 4, 4, 0, 0);
        FenceBench y = new FenceBench();
        addFields(y, 4);
        // A star whose arms have one side each is a knot, with nothing loose told of it.
        y.side(0, 1);
        y.side(0, 2);
        y.side(0, 3);
        duePart(y, 0, 2, 4, 3, 0, 0);
        duePart(chain(1), 0, 0, 1, 2, 0, 0);
        duePart(grid(12, 12), 0, 2, 144, 312, 0, 0);
    }

    private static void looseFields() {
        FenceBench x = chain(5);
        addChain(x, 3);
        due("loose()", x.loose(), 0);
        x.draw(2);
        due("loose() both ways", x.loose(), 5);
        due("count(2) is as it was", x.count(2), 9);
        x.draw(1);
        due("loose() less one", x.loose(), 4);
        x.draw(9);
        due("loose() of two chains", x.loose(), 7);
        FenceBench y = ring(4);
        y.side(0, NONE);
        y.side(0, NONE);
        due("loose() of a knot", y.loose(), 0);
        y.draw(1);
        due("loose() into a knot", y.loose(), 3);
        y.draw(4);
        due("loose() through a knot", y.loose(), 4);
        FenceBench z = new FenceBench();
        addFields(z, 2);
        z.side(0, 1);
        due("loose() of two with one side", z.loose(), 2);
    }

    private static void worths() {
        due("worth() of 1 by 1", grid(1, 1).worth(), -1);
        due("worth() of 1 by 2", grid(1, 2).worth(), 0);
        due("worth() of 17 sides", grid(2, 3).worth(), UNTOLD);
        FenceBench x = grid(1, 5);
        due("count(2)", x.count(2), 16);
        due("worth() of 16 sides is told", x.worth() == UNTOLD, false);
        x.field();
        x.side(5, NONE);
        due("worth() of 17 sides", x.worth(), UNTOLD);
        x.draw(16);
        due("worth() of 16 sides", x.worth(), grid(1, 5).worth());
        FenceBench y = new FenceBench();
        addFields(y, 32);
        for (int i = 0; i < 16; i++) {
            y.side(2 * i, 2 * i + 1);
        }
        due("worth() of 32 fields", y.worth(), 32);
        y.draw(3);
        due("worth() of 30 fields", y.worth(), 30);
        due("worth() of a ring of 16", ring(16).worth(), -16);
        due("worth() of a chain of 15", chain(15).worth(), -15);
    }

    private static void worthBehindDrawsAndUndos() {
        FenceBench x = grid(2, 2);
        int all = x.worth();
        x.draw(0);
        int behind = x.worth();
        due("worth() falls to the best draw", all >= -behind, true);
        x.draw(3);
        x.draw(7);
        x.worth();
        x.undo();
        x.undo();
        due("worth()", x.worth(), behind);
        x.undo();
        due("worth()", x.worth(), all);
        FenceBench y = grid(2, 3);
        y.draw(0);
        int first = y.worth();
        y.undo();
        y.draw(8);
        due("worth() of the same turned round", y.worth(), first);
        y.undo();
        due("worth()", y.worth(), UNTOLD);
    }

    private static void worthsOfSides() {
        FenceBench x = chain(3);
        for (int s = 0; s < 4; s++) {
            due("worthOf(" + s + ")", x.worthOf(s), -3);
        }
        x.draw(0);
        due("worthOf(1)", x.worthOf(1), 3);
        due("worthOf(2)", x.worthOf(2), -3);
        due("worthOf(3)", x.worthOf(3), -3);
        for (int s : new int[] {0, -1, 4, LOW, HIGH}) {
            due("worthOf(" + s + ")", x.worthOf(s), UNTOLD);
        }
        due("worthOf(0) of 17", grid(2, 3).worthOf(0), UNTOLD);
    }

    private static void bestSides() {
        FenceBench x = chain(3);
        for (int i = 0; i < 4; i++) {
            due("best(" + i + ")", x.best(i), i);
        }
        due("best(4)", x.best(4), NONE);
        due("best(-1)", x.best(-1), NONE);
        due("best(LOW)", x.best(LOW), NONE);
        x.draw(3);
        due("best(0)", x.best(0), 2);
        due("best(1)", x.best(1), NONE);
        due("best(0) of 17", grid(2, 3).best(0), NONE);
        x.draw(2);
        x.draw(1);
        x.draw(0);
        due("best(0) of none open", x.best(0), NONE);
        FenceBench y = chain(2);
        y.worth();
        addChain(y, 1);
        y.draw(1);
        y.worth();
        y.undo();
        due("best(0)", y.best(0), 3);
        due("best(1)", y.best(1), 4);
        due("best(2)", y.best(2), NONE);
    }

    private static void simpleMeadows() {
        due("simple() of a knot", grid(1, 1).simple(), UNTOLD);
        due("simple() of a chain of 200", chain(200).simple(), -200);
        due("simple() of a ring of 3", ring(3).simple(), -3);
        FenceBench x = chain(2);
        addChain(x, 6);
        due("simple()", x.simple(), 4);
        x.draw(0);
        // All: 2 - 6. Leaving two: 2 - 4 + 6.
        due("simple() with two to leave", x.simple(), 4);
        FenceBench y = ring(4);
        addChain(y, 20);
        y.draw(0);
        // All: 4 - 20. Leaving four: 4 - 8 + 20.
        due("simple() with four to leave", y.simple(), 16);
        FenceBench z = chain(1);
        addChain(z, 9);
        z.draw(0);
        due("simple() with nothing to leave", z.simple(), -8);
        FenceBench w = ring(3);
        addChain(w, 20);
        w.draw(0);
        due("simple() with three that can't be left", w.simple(), -17);
    }

    private static void simpleWithoutAHeapThatIsTold() {
        FenceBench x = new FenceBench();
        for (int length = 1; length <= 14; length++) {
            addChain(x, length);
        }
        due("simple() of 14 kinds", x.simple() == UNTOLD, false);
        addChain(x, 15);
        due("simple() of 15 kinds", x.simple(), UNTOLD);
        due("give(0) of 15 kinds", x.give(0), NONE);
        due("keep() without loose ones", x.keep(), UNTOLD);
        due("count(7)", x.count(7), 1);
        int last = x.count(1) - 1;
        x.draw(last);
        due("simple() of 14 kinds and a loose one", x.simple() == UNTOLD, false);
        due("keep()", x.keep() == UNTOLD, false);
        x.undo();
        x.heap(false, 7, 1);
        dueValue(x, -7);
    }

    private static void keeping() {
        due("keep() without loose ones", chain(3).keep(), UNTOLD);
        due("keep() of a knot", grid(1, 1).keep(), UNTOLD);
        FenceBench x = chain(2);
        addChain(x, 2);
        x.draw(0);
        // R is -2: 2 - 2 and 2 - 4 + 2.
        due("keep() alike", x.keep(), 0);
        FenceBench y = chain(2);
        addChain(y, 3);
        y.draw(0);
        due("keep() less", y.keep(), -1);
        FenceBench z = chain(2);
        addChain(z, 1);
        z.draw(0);
        due("keep() more", z.keep(), 1);
        FenceBench w = chain(1);
        addChain(w, 9);
        w.draw(0);
        due("keep() with nothing to leave", w.keep(), 1);
        FenceBench v = ring(4);
        addChain(v, 4);
        v.draw(0);
        // R is -4: 4 - 4 and 4 - 8 + 4.
        due("keep() of four alike", v.keep(), 0);
        FenceBench u = ring(4);
        addChain(u, 2);
        addChain(u, 3);
        u.draw(0);
        u.draw(4);
        // R is -3; leaving two costs less than leaving four.
        due("keep() of two or four", u.keep(), -1);
        due("simple() of two or four", u.simple(), 5);
        addKnotAside();
    }

    private static void addKnotAside() {
        FenceBench x = chain(2);
        x.field();
        for (int i = 0; i < 3; i++) {
            x.side(2, NONE);
        }
        x.draw(0);
        due("keep() beside a knot", x.keep(), UNTOLD);
        due("simple() beside a knot", x.simple(), UNTOLD);
        due("give(0) beside a knot", x.give(0), NONE);
        x.draw(3);
        due("keep() when it is untied", x.keep() == UNTOLD, false);
    }

    private static void giving() {
        FenceBench x = ring(2);
        addChain(x, 2);
        addChain(x, 2);
        due("give(0)", x.give(0), 20);
        due("give(1)", x.give(1), 21);
        due("give(2)", x.give(2), NONE);
        due("give(-1)", x.give(-1), NONE);
        due("give(LOW)", x.give(LOW), NONE);
        due("give(HIGH)", x.give(HIGH), NONE);
        x.draw(0);
        due("give(0) with loose ones", x.give(0), NONE);
        due("give(0) of a knot", grid(1, 1).give(0), NONE);
        FenceBench y = chain(5);
        addChain(y, 3);
        due("give(0)", y.give(0), 30);
        due("give(1)", y.give(1), 50);
        due("give(2)", y.give(2), NONE);
        FenceBench z = chain(3);
        addChain(z, 1);
        due("give(0)", z.give(0), 10);
        due("give(1)", z.give(1), NONE);
    }

    private static void countingLongs() {
        FenceBench x = chain(3);
        addChain(x, 2);
        addRing(x, 2);
        addChain(x, 9);
        due("longs()", x.longs(), 3);
        int knot = x.field();
        for (int i = 0; i < 3; i++) {
            x.side(knot, NONE);
        }
        due("longs() beside a knot", x.longs(), 3);
        x.draw(0);
        due("longs() without the one that is loose", x.longs(), 2);
    }

    private static void counts() {
        FenceBench x = chain(2);
        addChain(x, 1);
        x.field();
        x.draw(0);
        x.draw(1);
        x.draw(2);
        x.draw(3);
        x.draw(4);
        x.undo();
        int[] want = {4, 5, 1, 2, 4, 1, 1, 1, 0, 2};
        for (int what = 0; what < want.length; what++) {
            due("count(" + what + ")", x.count(what), want[what]);
        }
        x.redo();
        due("count(8)", x.count(8), 1);
        due("count(3)", x.count(3), 3);
        for (int what : new int[] {-1, 10, LOW, HIGH}) {
            due("count(" + what + ")", x.count(what), NONE);
        }
        due("count(7) of a knot", grid(1, 1).count(7), 0);
    }

    private static void emptying() {
        FenceBench x = chain(3);
        x.heap(false, 3, 5);
        x.empty();
        dueValue(x, 0);
        due("open(0)", x.open(0), NONE);
        due("count(0)", x.count(0), 3);
        due("heap(false, 3, 1)", x.heap(false, 3, 1), 1);
        for (int length = 4; length <= 32; length++) {
            x.heap(false, length, 1);
        }
        due("a 31st kind", x.heap(false, 33, 1), NONE);
        x.empty();
        for (int length = 33; length <= 62; length++) {
            due("one of 30 kinds behind empty()", x.heap(false, length, 1), 1);
        }
        due("a 31st kind behind empty()", x.heap(false, 63, 1), NONE);
    }

    private static void heaping() {
        FenceBench x = new FenceBench();
        int[][] bad = {{0, 1}, {-1, 1}, {201, 1}, {HIGH, 1}, {LOW, 1}, {5, 0}, {5, -1}, {5, 101}, {5, HIGH}, {5, LOW}};
        for (int[] b : bad) {
            due("heap(false, " + b[0] + ", " + b[1] + ")", x.heap(false, b[0], b[1]), NONE);
            due("heap(true, " + b[0] + ", " + b[1] + ")", x.heap(true, b[0], b[1]), NONE);
        }
        due("heap(true, 1, 1)", x.heap(true, 1, 1), NONE);
        dueValue(x, 0);
        due("heap(false, 1, 1)", x.heap(false, 1, 1), 1);
        due("heap(true, 2, 3)", x.heap(true, 2, 3), 3);
        due("heap(false, 2, 4)", x.heap(false, 2, 4), 4);
        due("heap(true, 200, 100)", x.heap(true, 200, 100), 100);
        due("heap(false, 200, 1)", x.heap(false, 200, 1), 1);
        for (int i = 2; i <= 10; i++) {
            due("heap(true, 200, 100)", x.heap(true, 200, 100), 100 * i);
        }
        due("heap(true, 200, 1) of 1,000", x.heap(true, 200, 1), NONE);
        for (int length = 3; length <= 27; length++) {
            due("heap(false, length, 1)", x.heap(false, length, 1), 1);
        }
        due("heap of a 31st kind", x.heap(true, 27, 1), NONE);
        due("heap of a kind that is there", x.heap(false, 27, 100), 101);
    }

    private static void heapJustBelowAThousand() {
        FenceBench x = new FenceBench();
        for (int i = 0; i < 9; i++) {
            x.heap(false, 1, 100);
        }
        x.heap(false, 1, 99);
        due("heap(false, 1, 2) of 999", x.heap(false, 1, 2), NONE);
        due("heap(false, 1, 1) of 999", x.heap(false, 1, 1), 1000);
        dueValue(x, 0);
    }

    private static void values() {
        FenceBench x = new FenceBench();
        x.heap(true, 3, 1);
        dueValue(x, -3);
        x.heap(true, 3, 1);
        // A ring of three can't be left: 0 - 3 + 3.
        dueValue(x, 0);
        x.empty();
        x.heap(true, 4, 1);
        x.heap(false, 9, 1);
        // To open the ring: the other closes 4 - 9, or leaves four: 4 - 8 + 9.
        dueValue(x, -5);
        x.empty();
        x.heap(false, 200, 100);
        dueValue(x, -196 * 99 - 200);
        for (int i = 0; i < 9; i++) {
            x.heap(false, 200, 100);
        }
        dueValue(x, -196 * 999 - 200);
        x.heap(false, 1, 18);
        dueValue(x, -196 * 999 - 200);
        x.heap(false, 1, 1);
        dueUntoldValue(x);
        due("open(0)", x.open(0), NONE);
        x.empty();
        dueValue(x, 0);
    }

    /** 99 and 199, one more each, make 20,000; one more of a kind is too much. */
    private static void valuesUpTo20000() {
        FenceBench x = new FenceBench();
        x.heap(false, 1, 99);
        x.heap(true, 2, 100);
        x.heap(true, 2, 99);
        dueValue(x, 1);
        due("open(0)", x.open(0) == NONE, false);
        x.heap(true, 2, 1);
        dueUntoldValue(x);
        x.empty();
        // 3 times 59 times 113 are 20,001.
        x.heap(false, 1, 2);
        x.heap(false, 2, 58);
        x.heap(false, 3, 100);
        x.heap(false, 3, 12);
        dueUntoldValue(x);
        FenceBench y = new FenceBench();
        for (int length = 1; length <= 14; length++) {
            y.heap(true, length + 1, 1);
        }
        due("open(0) of 14 kinds", y.open(0) == NONE, false);
        y.heap(false, 1, 1);
        dueUntoldValue(y);
        for (int length = 2; length <= 16; length++) {
            y.heap(false, length, 100);
        }
        dueUntoldValue(y);
        due("open(0) of 30 kinds", y.open(0), NONE);
    }

    private static void opening() {
        FenceBench x = new FenceBench();
        due("open(0)", x.open(0), NONE);
        x.heap(true, 4, 1);
        x.heap(false, 9, 1);
        due("open(0)", x.open(0), 41);
        due("open(1)", x.open(1), NONE);
        x.empty();
        x.heap(true, 2, 1);
        x.heap(true, 200, 1);
        x.heap(false, 2, 2);
        due("open(0)", x.open(0), 20);
        due("open(1)", x.open(1), 21);
        due("open(2)", x.open(2), NONE);
        for (int i : new int[] {-1, LOW, HIGH}) {
            due("open(" + i + ")", x.open(i), NONE);
        }
        x.empty();
        x.heap(true, 200, 1);
        due("open(0)", x.open(0), 2001);
        x.empty();
        x.heap(false, 200, 1);
        due("open(0)", x.open(0), 2000);
    }

    public static void main(String[] args) {
        promise = 1; aNewObject();
        promise = 2; clearing(); clearingForgetsWhatWasWorkedOut();
        promise = 3; fieldsAdded();
        promise = 4; sidesAdded(); sidesUpTo500();
        promise = 5; grids();
        promise = 6; draws();
        promise = 7; undos();
        promise = 8; redos();
        promise = 9; turns();
        promise = 10; looks();
        promise = 11; asks();
        promise = 12; lineOfDraws();
        promise = 13; partsToldByLeastField(); knotsAndRings();
        promise = 14; looseFields();
        promise = 15; worths(); worthBehindDrawsAndUndos();
        promise = 16; worthsOfSides();
        promise = 17; bestSides();
        promise = 18; simpleMeadows(); simpleWithoutAHeapThatIsTold();
        promise = 19; keeping();
        promise = 20; giving();
        promise = 21; countingLongs();
        promise = 22; counts();
        promise = 23; emptying();
        promise = 24; heaping(); heapJustBelowAThousand();
        promise = 25; values(); valuesUpTo20000();
        promise = 26; opening();
        System.out.println(wrong == 0 ? "all promises hold" : wrong + " answers are not as due");
        if (wrong != 0) {
            System.exit(1);
        }
    }
}
