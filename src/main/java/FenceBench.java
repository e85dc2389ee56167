import java.util.Arrays;
import java.util.NoSuchElementException;

/** A bench for the game of fences: meadows, their parts, and what they are worth. */
public final class FenceBench {
    public static final int NONE = -1;
    public static final int UNTOLD = 1000;

    private static final int MOST_FIELDS = 200;
    private static final int MOST_SIDES = 500;
    private static final int MOST_SIDES_OF_ONE = 4;
    private static final int MOST_ROWS = 12;
    private static final int MOST_FOR_ALL_WAYS = 16;

    private static final int MOST_LENGTH = 200;
    private static final int LEAST_RING = 2;
    private static final int MOST_ADDED = 100;
    private static final int MOST_OF_ONE_KIND = 1000;
    private static final int MOST_KINDS = 30;
    private static final int MOST_HEAPS = 20000;

    // Below whatever a WORTH or a V can be.
    private static final int FAR_BELOW = -1000000000;

    private static final int CHAIN = 0;
    private static final int RING = 1;
    private static final int KNOT = 2;

    private final Meadow meadow;
    private final Parts parts;
    private final Ways ways;
    private final Ends ends;
    private final Lengths lengths;

    public FenceBench() {
        meadow = new Meadow();
        parts = new Parts();
        ways = new Ways();
        ends = new Ends();
        lengths = new Lengths();
    }

    public void clear() {
        meadow.wipe();
        ways.forget();
    }

    public int field() {
        return meadow.addField();
    }

    public int side(int a, int b) {
        return meadow.addSide(a, b);
    }

    public boolean grid(int rows, int columns) {
        if (rows < 1 || rows > MOST_ROWS || columns < 1 || columns > MOST_ROWS) {
            return false;
        }
        meadow.layGrid(rows, columns);
        ways.forget();
        return true;
    }

    public int draw(int side) {
        return meadow.isOpen(side) ? meadow.takeNew(side) : NONE;
    }

    public int undo() {
        return meadow.takeBack();
    }

    public int redo() {
        return meadow.takeAgain();
    }

    public int whose() {
        return meadow.openSides == 0 ? NONE : meadow.turn;
    }

    public int look(int field, int what) {
        if (!meadow.hasField(field)) {
            return NONE;
        }
        switch (what) {
            case 0: return meadow.openCount[field];
            case 1: return meadow.sideCount[field];
            case 2: return meadow.owner[field];
            case 3: return surveyed().partOf[field];
            default: return NONE;
        }
    }

    public int ask(int side, int what) {
        if (!meadow.hasSide(side)) {
            return NONE;
        }
        switch (what) {
            case 0: return meadow.isOpen(side) ? 1 : 0;
            case 1: return meadow.first[side];
            case 2: return meadow.second[side];
            case 3: return meadow.closedBy(side);
            default: return NONE;
        }
    }

    public int drawn(int i) throws NoSuchElementException {
        if (i < 0 || i >= meadow.done) {
            throw new NoSuchElementException("no such draw");
        }
        return meadow.line[i];
    }

    public int part(int i, int what) {
        Parts all = surveyed();
        if (i < 0 || i >= all.count) {
            return NONE;
        }
        switch (what) {
            case 0: return all.kind[i];
            case 1: return all.fields[i];
            case 2: return all.sides[i];
            case 3: return all.loose[i];
            case 4: return all.least[i];
            default: return NONE;
        }
    }

    public int loose() {
        return parts.closable(meadow);
    }

    public int worth() {
        return isTooWide() ? UNTOLD : ways.worthOfAll(meadow);
    }

    public int worthOf(int side) {
        return isTooWide() || !meadow.isOpen(side) ? UNTOLD : ways.worthOfOne(meadow, side);
    }

    public int best(int i) {
        return isTooWide() ? NONE : ways.bestSide(meadow, i);
    }

    public int simple() {
        Ends now = reckoned();
        return now.isTold() ? now.worthByLengths() : UNTOLD;
    }

    public int keep() {
        Ends now = reckoned();
        return now.hasLoose && now.isTold() ? now.keepOrLeave() : UNTOLD;
    }

    public int give(int i) {
        Ends now = reckoned();
        return !now.hasLoose && now.isTold() ? now.others.bestKind(i) : NONE;
    }

    public int longs() {
        return surveyed().countLongs();
    }

    public int count(int what) {
        switch (what) {
            case 0: return meadow.fields;
            case 1: return meadow.sides;
            case 2: return meadow.openSides;
            case 3: return meadow.owned[0] + meadow.owned[1];
            case 4: return meadow.done;
            case 5: return meadow.known - meadow.done;
            case 6: return surveyed().count;
            case 7: return surveyed().knots == 0 ? 1 : 0;
            case 8: return meadow.owned[0];
            case 9: return meadow.owned[1];
            default: return NONE;
        }
    }

    public void empty() {
        lengths.wipe();
    }

    public int heap(boolean ring, int length, int n) {
        boolean fits = length >= (ring ? LEAST_RING : 1) && length <= MOST_LENGTH
                && n >= 1 && n <= MOST_ADDED && lengths.hasRoom(ring, length, n);
        return fits ? lengths.put(ring, length, n) : NONE;
    }

    public int value() throws IllegalStateException {
        if (!lengths.isTold()) {
            throw new IllegalStateException("the heap is not told");
        }
        return lengths.whole();
    }

    public int open(int i) {
        return lengths.isTold() ? lengths.bestKind(i) : NONE;
    }

    private boolean isTooWide() {
        return meadow.openSides > MOST_FOR_ALL_WAYS;
    }

    private Parts surveyed() {
        parts.survey(meadow);
        return parts;
    }

    private Ends reckoned() {
        ends.reckon(surveyed());
        return ends;
    }

    /** The MEADOW with its draws, done and undone. */
    private static final class Meadow {
        private final int[] first = new int[MOST_SIDES];
        private final int[] second = new int[MOST_SIDES];
        private final boolean[] unfenced = new boolean[MOST_SIDES];
        private final int[] line = new int[MOST_SIDES];
        private final int[] drawer = new int[MOST_SIDES];
        private final int[] sidesAt = new int[MOST_FIELDS * MOST_SIDES_OF_ONE];
        private final int[] sideCount = new int[MOST_FIELDS];
        private final int[] openCount = new int[MOST_FIELDS];
        private final int[] owner = new int[MOST_FIELDS];
        private final int[] owned = new int[2];
        private int fields;
        private int sides;
        private int openSides;
        private int done;
        // The draws done and, behind them in the line, those that can be redone.
        private int known;
        private int turn;
        // Tells what was worked out of an earlier state that it is stale.
        private int changes;

        void wipe() {
            fields = 0;
            sides = 0;
            openSides = 0;
            done = 0;
            known = 0;
            turn = 0;
            owned[0] = 0;
            owned[1] = 0;
            changes++;
        }

        boolean hasField(int field) {
            return field >= 0 && field < fields;
        }

        boolean hasSide(int side) {
            return side >= 0 && side < sides;
        }

        boolean isOpen(int side) {
            return hasSide(side) && unfenced[side];
        }

        int addField() {
            if (known > 0 || fields >= MOST_FIELDS) {
                return NONE;
            }
            sideCount[fields] = 0;
            openCount[fields] = 0;
            owner[fields] = NONE;
            fields++;
            changes++;
            return fields - 1;
        }

        int addSide(int a, int b) {
            boolean fits = known == 0 && sides < MOST_SIDES && a != b
                    && canTakeSide(a) && (b == NONE || canTakeSide(b));
            if (!fits) {
                return NONE;
            }
            first[sides] = a;
            second[sides] = b;
            unfenced[sides] = true;
            attach(a);
            if (b != NONE) {
                attach(b);
            }
            sides++;
            openSides++;
            changes++;
            return sides - 1;
        }

        private boolean canTakeSide(int field) {
            return hasField(field) && sideCount[field] < MOST_SIDES_OF_ONE;
        }

        private void attach(int field) {
            sidesAt[field * MOST_SIDES_OF_ONE + sideCount[field]] = sides;
            sideCount[field]++;
            openCount[field]++;
        }

        void layGrid(int rows, int columns) {
            wipe();
            for (int i = 0; i < rows * columns; i++) {
                addField();
            }
            for (int r = 0; r <= rows; r++) {
                for (int c = 0; c < columns; c++) {
                    int below = r * columns + c;
                    addBetween(r > 0 ? below - columns : NONE, r < rows ? below : NONE);
                }
            }
            for (int r = 0; r < rows; r++) {
                for (int c = 0; c <= columns; c++) {
                    int right = r * columns + c;
                    addBetween(c > 0 ? right - 1 : NONE, c < columns ? right : NONE);
                }
            }
        }

        /** A SIDE at the rim has its FIELD first, whichever way outside lies. */
        private void addBetween(int a, int b) {
            if (a == NONE) {
                addSide(b, NONE);
            } else {
                addSide(a, b);
            }
        }

        /** The i-th SIDE of a FIELD; i is below its sideCount. */
        int sideAt(int field, int i) {
            return sidesAt[field * MOST_SIDES_OF_ONE + i];
        }

        /** The FIELD on the other hand of a SIDE of this one, or NONE. */
        int across(int side, int field) {
            return first[side] == field ? second[side] : first[side];
        }

        int closedBy(int side) {
            if (!isOpen(side)) {
                return 0;
            }
            int closed = openCount[first[side]] == 1 ? 1 : 0;
            if (second[side] != NONE && openCount[second[side]] == 1) {
                closed++;
            }
            return closed;
        }

        int takeNew(int side) {
            int closed = take(side);
            known = done;
            return closed;
        }

        int takeAgain() {
            if (done >= known) {
                return NONE;
            }
            int side = line[done];
            take(side);
            return side;
        }

        int takeBack() {
            if (done == 0) {
                return NONE;
            }
            done--;
            int side = line[done];
            turn = drawer[done];
            unfenced[side] = true;
            openSides++;
            reopen(first[side]);
            if (second[side] != NONE) {
                reopen(second[side]);
            }
            changes++;
            return side;
        }

        private int take(int side) {
            int closed = closedBy(side);
            line[done] = side;
            drawer[done] = turn;
            done++;
            unfenced[side] = false;
            openSides--;
            fence(first[side]);
            if (second[side] != NONE) {
                fence(second[side]);
            }
            if (closed == 0) {
                turn = 1 - turn;
            }
            changes++;
            return closed;
        }

        private void fence(int field) {
            openCount[field]--;
            if (openCount[field] == 0) {
                owner[field] = turn;
                owned[turn]++;
            }
        }

        private void reopen(int field) {
            if (openCount[field] == 0) {
                owner[field] = NONE;
                owned[turn]--;
            }
            openCount[field]++;
        }
    }

    /** The PARTS of a MEADOW, by their least FIELDS. */
    private static final class Parts {
        private final int[] partOf = new int[MOST_FIELDS];
        private final int[] kind = new int[MOST_FIELDS];
        private final int[] fields = new int[MOST_FIELDS];
        private final int[] sides = new int[MOST_FIELDS];
        private final int[] loose = new int[MOST_FIELDS];
        private final int[] least = new int[MOST_FIELDS];
        private final int[] queue = new int[MOST_FIELDS];
        private final int[] left = new int[MOST_FIELDS];
        private int queued;
        private int count;
        private int knots;
        private int seen = NONE;

        void survey(Meadow meadow) {
            if (seen == meadow.changes) {
                return;
            }
            seen = meadow.changes;
            count = 0;
            knots = 0;
            Arrays.fill(partOf, NONE);
            for (int f = 0; f < meadow.fields; f++) {
                if (meadow.openCount[f] > 0 && partOf[f] == NONE) {
                    gather(meadow, f);
                    describe(meadow);
                    count++;
                }
            }
        }

        /** Queues all FIELDS that hang together with one, that one first. */
        private void gather(Meadow meadow, int start) {
            queued = 0;
            join(start);
            for (int i = 0; i < queued && i < MOST_FIELDS; i++) {
                int field = queue[i];
                for (int j = 0; j < meadow.sideCount[field]; j++) {
                    int side = meadow.sideAt(field, j);
                    int next = meadow.across(side, field);
                    if (meadow.unfenced[side] && next != NONE && partOf[next] == NONE) {
                        join(next);
                    }
                }
            }
        }

        private void join(int field) {
            partOf[field] = count;
            queue[queued] = field;
            queued++;
        }

        private void describe(Meadow meadow) {
            int ones = 0;
            int crowded = 0;
            int outside = 0;
            int inside = 0;
            for (int i = 0; i < queued; i++) {
                int field = queue[i];
                int open = meadow.openCount[field];
                int out = openOutside(meadow, field);
                ones += open == 1 ? 1 : 0;
                crowded += open > 2 ? 1 : 0;
                outside += out;
                inside += open - out;
            }
            least[count] = queue[0];
            fields[count] = queued;
            // Both FIELDS of a SIDE inside have counted it.
            sides[count] = outside + inside / 2;
            kind[count] = crowded > 0 ? KNOT : ones == 0 && outside == 0 ? RING : CHAIN;
            loose[count] = kind[count] == CHAIN ? ones : 0;
            knots += kind[count] == KNOT ? 1 : 0;
        }

        private int openOutside(Meadow meadow, int field) {
            int out = 0;
            for (int j = 0; j < meadow.sideCount[field]; j++) {
                int side = meadow.sideAt(field, j);
                if (meadow.unfenced[side] && meadow.second[side] == NONE) {
                    out++;
                }
            }
            return out;
        }

        int countLongs() {
            int longs = 0;
            for (int p = 0; p < count; p++) {
                boolean longChain = kind[p] == CHAIN && fields[p] >= 3 && loose[p] == 0;
                if (longChain || kind[p] == RING) {
                    longs++;
                }
            }
            return longs;
        }

        /**
         * How many FIELDS can be CLOSED in one go. A FIELD with one SIDE left keeps it till it is
         * drawn, so the order of the draws does not matter.
         */
        int closable(Meadow meadow) {
            System.arraycopy(meadow.openCount, 0, left, 0, meadow.fields);
            queued = 0;
            for (int f = 0; f < meadow.fields; f++) {
                queueIfLast(f);
            }
            int closed = 0;
            for (int i = 0; i < queued && i < MOST_FIELDS; i++) {
                closed += closeOne(meadow, queue[i]);
            }
            return closed;
        }

        private void queueIfLast(int field) {
            if (left[field] == 1 && queued < MOST_FIELDS) {
                queue[queued] = field;
                queued++;
            }
        }

        private int closeOne(Meadow meadow, int field) {
            if (left[field] == 0) {
                return 0;
            }
            int next = neighbourLeft(meadow, field);
            left[field] = 0;
            if (next == NONE) {
                return 1;
            }
            left[next]--;
            queueIfLast(next);
            return left[next] == 0 ? 2 : 1;
        }

        /**
         * The FIELD across the last SIDE of one, or NONE. Only SIDES of a CLOSED FIELD have been
         * drawn on the way, so the last SIDE is the one that leads outside or to one not CLOSED.
         */
        private int neighbourLeft(Meadow meadow, int field) {
            for (int j = 0; j < meadow.sideCount[field]; j++) {
                int side = meadow.sideAt(field, j);
                int next = meadow.across(side, field);
                if (meadow.unfenced[side] && next != NONE && left[next] > 0) {
                    return next;
                }
            }
            return NONE;
        }
    }

    /**
     * WORTH by all ways. The WORTH of a MEADOW hangs on its set of OPEN SIDES alone; so one table
     * over all sets of some SIDES serves whatever is drawn or undone among them.
     */
    private static final class Ways {
        private final int[] base = new int[MOST_FOR_ALL_WAYS];
        private final int[] firstField = new int[MOST_FOR_ALL_WAYS];
        private final int[] secondField = new int[MOST_FOR_ALL_WAYS];
        private int size;
        // Eight sets share one long, for the sake of the room; a WORTH is -32 .. 32.
        private long[] table = new long[1];

        /** The SIDES are others now, though they bear the same numbers. */
        void forget() {
            size = 0;
        }

        int worthOfAll(Meadow meadow) {
            return worthOfSet(openSet(meadow));
        }

        /** What an OPEN SIDE is worth. */
        int worthOfOne(Meadow meadow, int side) {
            return worthInSet(openSet(meadow), side);
        }

        int bestSide(Meadow meadow, int i) {
            int set = openSet(meadow);
            int worth = worthOfSet(set);
            int found = 0;
            for (int s = 0; s < meadow.sides; s++) {
                if (meadow.unfenced[s] && worthInSet(set, s) == worth) {
                    if (found == i) {
                        return s;
                    }
                    found++;
                }
            }
            return NONE;
        }

        private int worthInSet(int set, int side) {
            for (int j = 0; j < size; j++) {
                if (base[j] == side) {
                    return worthOfDraw(set, j);
                }
            }
            return UNTOLD;
        }

        /** The OPEN SIDES as a set of the table, which is made to hold them first. */
        private int openSet(Meadow meadow) {
            int set = openInBase(meadow);
            if (Integer.bitCount(set) == meadow.openSides) {
                return set;
            }
            int kept = keptOfBase(meadow);
            widen(meadow, kept);
            fill(kept);
            return openInBase(meadow);
        }

        private int openInBase(Meadow meadow) {
            int set = 0;
            for (int j = 0; j < size; j++) {
                if (meadow.isOpen(base[j])) {
                    set |= 1 << j;
                }
            }
            return set;
        }

        /** How many SIDES at the front of the base are all OPEN. */
        private int keptOfBase(Meadow meadow) {
            int kept = 0;
            for (int j = 0; j < size && meadow.isOpen(base[j]); j++) {
                kept++;
            }
            return kept;
        }

        private void widen(Meadow meadow, int kept) {
            size = kept;
            for (int s = 0; s < meadow.sides; s++) {
                if (meadow.unfenced[s] && size < MOST_FOR_ALL_WAYS && !isKept(s, kept)) {
                    base[size] = s;
                    size++;
                }
            }
            for (int j = 0; j < size; j++) {
                firstField[j] = setOf(meadow, meadow.first[base[j]]);
                secondField[j] = setOf(meadow, meadow.second[base[j]]);
            }
        }

        private boolean isKept(int side, int kept) {
            for (int j = 0; j < kept; j++) {
                if (base[j] == side) {
                    return true;
                }
            }
            return false;
        }

        /** The SIDES of a FIELD in the base; none for outside. */
        private int setOf(Meadow meadow, int field) {
            int set = 0;
            for (int j = 0; j < size && field != NONE; j++) {
                if (meadow.first[base[j]] == field || meadow.second[base[j]] == field) {
                    set |= 1 << j;
                }
            }
            return set;
        }

        /** Sets of kept SIDES alone are worth what they were. */
        private void fill(int kept) {
            int sets = 1 << size;
            int longs = (sets + 7) >> 3;
            if (table.length < longs) {
                table = Arrays.copyOf(table, longs);
            }
            for (int set = 1 << kept; set < sets; set++) {
                int shift = (set & 7) << 3;
                long others = table[set >> 3] & ~(0xFFL << shift);
                table[set >> 3] = others | (bestOfSet(set) & 0xFFL) << shift;
            }
        }

        private int bestOfSet(int set) {
            int best = FAR_BELOW;
            for (int j = 0; j < size; j++) {
                if ((set >> j & 1) != 0) {
                    int worth = worthOfDraw(set, j);
                    best = worth > best ? worth : best;
                }
            }
            return best;
        }

        private int worthOfDraw(int set, int j) {
            int bit = 1 << j;
            int behind = worthOfSet(set ^ bit);
            int closed = (set & firstField[j]) == bit ? 1 : 0;
            if ((set & secondField[j]) == bit) {
                closed++;
            }
            return closed > 0 ? closed + behind : -behind;
        }

        private int worthOfSet(int set) {
            return (byte) (table[set >> 3] >> ((set & 7) << 3));
        }
    }

    /** What a MEADOW is worth by the lengths of its CHAINS and RINGS. */
    private static final class Ends {
        private final Lengths others = new Lengths();
        private boolean isSimple;
        private boolean hasLoose;
        private boolean canLeaveTwo;
        private boolean canLeaveFour;
        private int looseFields;
        private int seen = NONE;

        void reckon(Parts parts) {
            if (seen == parts.seen) {
                return;
            }
            seen = parts.seen;
            isSimple = parts.knots == 0;
            hasLoose = false;
            canLeaveTwo = false;
            canLeaveFour = false;
            looseFields = 0;
            others.wipe();
            for (int p = 0; p < parts.count && isSimple; p++) {
                if (parts.loose[p] > 0) {
                    takeLoose(parts.loose[p], parts.fields[p]);
                } else {
                    others.put(parts.kind[p] == RING, parts.fields[p], 1);
                }
            }
        }

        private void takeLoose(int loose, int length) {
            hasLoose = true;
            looseFields += length;
            canLeaveTwo = canLeaveTwo || loose == 1 && length >= 2;
            canLeaveFour = canLeaveFour || loose == 2 && length >= 4;
        }

        boolean isTold() {
            return isSimple && others.isTold();
        }

        int worthByLengths() {
            int best = closingAll();
            if (canLeave()) {
                best = Math.max(best, leavingSome());
            }
            return best;
        }

        int keepOrLeave() {
            if (!canLeave() || closingAll() > leavingSome()) {
                return 1;
            }
            return closingAll() == leavingSome() ? 0 : -1;
        }

        private boolean canLeave() {
            return canLeaveTwo || canLeaveFour;
        }

        private int closingAll() {
            return looseFields + others.whole();
        }

        private int leavingSome() {
            // To leave two costs less than to leave four, where both can be done.
            return looseFields - (canLeaveTwo ? 4 : 8) - others.whole();
        }
    }

    /** A HEAP of CHAINS and RINGS by their lengths, and V of all HEAPS within it. */
    private static final class Lengths {
        // CHAINS by length, then RINGS by length: the order in which kinds are told.
        private final int[] numbers = new int[2 * (MOST_LENGTH + 1)];
        // Of each kind that is there: its place in the numbers, its length, what leaving the last
        // fields of one costs (0 if it can't be), and how many HEAPS before stands one less of it.
        private final int[] place = new int[MOST_KINDS];
        private final int[] length = new int[MOST_KINDS];
        private final int[] cost = new int[MOST_KINDS];
        private final int[] step = new int[MOST_KINDS];
        private final int[] digit = new int[MOST_KINDS];
        private int different;
        private int kinds;
        private int heaps;
        private boolean fresh;
        private int[] v = new int[1];

        void wipe() {
            Arrays.fill(numbers, 0);
            different = 0;
            fresh = false;
        }

        private int placeOf(boolean ring, int fields) {
            return (ring ? MOST_LENGTH + 1 : 0) + fields;
        }

        private boolean isRing(int at) {
            return at > MOST_LENGTH;
        }

        boolean hasRoom(boolean ring, int fields, int n) {
            int there = numbers[placeOf(ring, fields)];
            return there + n <= MOST_OF_ONE_KIND && (there > 0 || different < MOST_KINDS);
        }

        int put(boolean ring, int fields, int n) {
            int at = placeOf(ring, fields);
            if (numbers[at] == 0) {
                different++;
            }
            numbers[at] += n;
            fresh = false;
            return numbers[at];
        }

        /** Whether V is told; if so it is worked out when this returns. */
        boolean isTold() {
            if (!fresh) {
                fresh = true;
                layOut();
                if (heaps <= MOST_HEAPS) {
                    fillAll();
                }
            }
            return heaps <= MOST_HEAPS;
        }

        /** V of the whole HEAP, which is told. */
        int whole() {
            return v[heaps - 1];
        }

        /** The i-th kind that is best to open, of a HEAP that is told. */
        int bestKind(int i) {
            int found = 0;
            for (int k = 0; k < kinds; k++) {
                if (openingAt(k, heaps - 1) == whole()) {
                    if (found == i) {
                        return 10 * length[k] + (isRing(place[k]) ? 1 : 0);
                    }
                    found++;
                }
            }
            return NONE;
        }

        /**
         * Numbers the HEAPS within this one. More than MOST_HEAPS of them are not counted to the
         * end; fifteen kinds make more already, so the bound of MOST_KINDS is never met here.
         */
        private void layOut() {
            kinds = 0;
            heaps = 1;
            for (int at = 0; at < numbers.length && heaps <= MOST_HEAPS; at++) {
                if (numbers[at] > 0 && kinds < MOST_KINDS) {
                    layOutKind(at);
                }
            }
        }

        private void layOutKind(int at) {
            boolean ring = isRing(at);
            int fields = ring ? at - placeOf(true, 0) : at;
            place[kinds] = at;
            length[kinds] = fields;
            cost[kinds] = fields < (ring ? 4 : 3) ? 0 : ring ? 8 : 4;
            step[kinds] = heaps;
            heaps *= numbers[at] + 1;
            kinds++;
        }

        private void fillAll() {
            if (v.length < heaps) {
                v = new int[Math.min(MOST_HEAPS, Math.max(heaps, 2 * v.length))];
            }
            Arrays.fill(digit, 0);
            v[0] = 0;
            for (int h = 1; h < heaps; h++) {
                countUp();
                v[h] = bestAt(h);
            }
        }

        /** The digits say how many of each kind the next HEAP has. */
        private void countUp() {
            for (int k = 0; k < kinds; k++) {
                if (digit[k] < numbers[place[k]]) {
                    digit[k]++;
                    return;
                }
                digit[k] = 0;
            }
        }

        private int bestAt(int h) {
            int best = FAR_BELOW;
            for (int k = 0; k < kinds; k++) {
                if (digit[k] > 0) {
                    best = Math.max(best, openingAt(k, h));
                }
            }
            return best;
        }

        /** What it is worth to open one of kind k in HEAP h, which has one. */
        private int openingAt(int k, int h) {
            int rest = v[h - step[k]];
            int taken = length[k] + rest;
            if (cost[k] > 0) {
                taken = Math.max(taken, length[k] - cost[k] - rest);
            }
            return -taken;
        }
    }
}
