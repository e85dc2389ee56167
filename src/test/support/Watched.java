import java.util.NoSuchElementException;

/** A bench that counts its calls, since the document promises nothing behind the 512th. */
final class Watched {
    static final int MOST_CALLS = 512;
    /** Stands for the exception that the document names for the call; no call answers it. */
    static final int THROWN = Integer.MIN_VALUE;

    private final FenceBench bench = new FenceBench();
    private int calls = 0;

    private FenceBench called() {
        calls++;
        if (calls > MOST_CALLS) {
            throw new AssertionError("this test makes more than " + MOST_CALLS + " calls of one object");
        }
        return bench;
    }

    int callsLeft() {
        return MOST_CALLS - calls;
    }

    void clear() {
        called().clear();
    }

    int field() {
        return called().field();
    }

    int side(int a, int b) {
        return called().side(a, b);
    }

    int grid(int rows, int columns) {
        return called().grid(rows, columns) ? 1 : 0;
    }

    int draw(int side) {
        return called().draw(side);
    }

    int undo() {
        return called().undo();
    }

    int redo() {
        return called().redo();
    }

    int whose() {
        return called().whose();
    }

    int look(int field, int what) {
        return called().look(field, what);
    }

    int ask(int side, int what) {
        return called().ask(side, what);
    }

    int drawn(int i) {
        FenceBench x = called();
        try {
            return x.drawn(i);
        } catch (NoSuchElementException e) {
            return THROWN;
        }
    }

    int part(int i, int what) {
        return called().part(i, what);
    }

    int loose() {
        return called().loose();
    }

    int worth() {
        return called().worth();
    }

    int worthOf(int side) {
        return called().worthOf(side);
    }

    int best(int i) {
        return called().best(i);
    }

    int simple() {
        return called().simple();
    }

    int keep() {
        return called().keep();
    }

    int give(int i) {
        return called().give(i);
    }

    int longs() {
        return called().longs();
    }

    int count(int what) {
        return called().count(what);
    }

    void empty() {
        called().empty();
    }

    int heap(boolean ring, int length, int n) {
        return called().heap(ring, length, n);
    }

    int value() {
        FenceBench x = called();
        try {
            return x.value();
        } catch (IllegalStateException e) {
            return THROWN;
        }
    }

    int open(int i) {
        return called().open(i);
    }

    /** n more fields; answers the first of them. */
    int fields(int n) {
        int first = field();
        for (int i = 1; i < n; i++) {
            field();
        }
        return first;
    }

    /** A chain of new fields, open to the outside at both ends; answers its first side. */
    int chain(int length) {
        int from = fields(length);
        int first = side(from, FenceBench.NONE);
        link(from, length);
        side(from + length - 1, FenceBench.NONE);
        return first;
    }

    /** A chain of new fields with one loose: open to the outside at its far end alone. */
    int chainWithOneLoose(int length) {
        int from = fields(length);
        link(from, length);
        return side(from + length - 1, FenceBench.NONE);
    }

    /** A chain of two new fields or more, both ends loose. */
    void chainWithTwoLoose(int length) {
        link(fields(length), length);
    }

    /** A ring of two new fields or more; answers its first field. */
    int ring(int length) {
        int from = fields(length);
        link(from, length);
        side(from + length - 1, from);
        return from;
    }

    /** One new field with three sides to the outside; answers the last of them. */
    int knot() {
        int field = field();
        side(field, FenceBench.NONE);
        side(field, FenceBench.NONE);
        return side(field, FenceBench.NONE);
    }

    private void link(int from, int length) {
        for (int f = from + 1; f < from + length; f++) {
            side(f - 1, f);
        }
    }

    Watched with(Edges.Change change) {
        change.on(this);
        return this;
    }
}
