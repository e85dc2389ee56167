import java.util.ArrayList;
import java.util.HashMap;
import java.util.List;
import java.util.Map;
import java.util.TreeMap;

/** V by the document's words, of a heap that is taken as told whatever its size. */
final class PlainHeap {
    private static final int RINGS = 1000;

    // Chains by their length, rings by RINGS and their length: the order in which kinds are told.
    private final TreeMap<Integer, Integer> numbers = new TreeMap<>();
    private final Map<List<Integer>, Integer> known = new HashMap<>();

    PlainHeap add(boolean ring, int length, int n) {
        numbers.merge((ring ? RINGS : 0) + length, n, Integer::sum);
        return this;
    }

    /** The numbers, one more each, multiplied. */
    int heaps() {
        return numbers.values().stream().reduce(1, (product, n) -> product * (n + 1));
    }

    int value() {
        return valueOf(new ArrayList<>(numbers.values()));
    }

    /** The kinds that are best to open. */
    int[] best() {
        List<Integer> left = new ArrayList<>(numbers.values());
        List<Integer> best = new ArrayList<>();
        int k = 0;
        for (int kind : numbers.keySet()) {
            if (opening(left, k) == valueOf(left)) {
                best.add(kind > RINGS ? 10 * (kind - RINGS) + 1 : 10 * kind);
            }
            k++;
        }
        return best.stream().mapToInt(Integer::intValue).toArray();
    }

    private int valueOf(List<Integer> left) {
        Integer there = known.get(left);
        if (there != null) {
            return there;
        }
        boolean empty = true;
        int greatest = Integer.MIN_VALUE;
        for (int k = 0; k < left.size(); k++) {
            if (left.get(k) > 0) {
                empty = false;
                greatest = Math.max(greatest, opening(left, k));
            }
        }
        int value = empty ? 0 : greatest;
        known.put(left, value);
        return value;
    }

    /** Less W, for the k-th kind. */
    private int opening(List<Integer> left, int k) {
        int kind = new ArrayList<>(numbers.keySet()).get(k);
        List<Integer> without = new ArrayList<>(left);
        without.set(k, left.get(k) - 1);
        int r = valueOf(without);
        boolean ring = kind > RINGS;
        int n = ring ? kind - RINGS : kind;
        int w = n + r;
        if (ring && n >= 4) {
            w = Math.max(w, n - 8 - r);
        }
        if (!ring && n >= 3) {
            w = Math.max(w, n - 4 - r);
        }
        return -w;
    }
}
