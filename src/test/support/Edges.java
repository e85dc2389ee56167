import java.util.ArrayList;
import java.util.List;

/** Checks answers at the edges, and that what is refused changes nothing that a call can show. */
final class Edges {
    static final int NONE = -1;
    static final int UNTOLD = 1000;
    static final int LOW = Integer.MIN_VALUE;
    static final int HIGH = Integer.MAX_VALUE;

    /** Brings a new object into some state. */
    interface Change {
        void on(Watched x);
    }

    /** A call with its answer. */
    interface Call {
        int on(Watched x);
    }

    /** Several calls behind one another, with their answers. */
    interface Tail {
        void on(Watched x, List<Integer> answers);
    }

    private record Question(String name, Call call) {
    }

    private record NamedTail(String name, Tail tail) {
    }

    private static final List<NamedTail> TAILS = List.of(
            new NamedTail("undo() and redo() to the end", Edges::backAndForth),
            new NamedTail("redo() to the end", Edges::forth),
            new NamedTail("field() and side()", Edges::addFieldAndSide),
            new NamedTail("side()", Edges::addSides),
            new NamedTail("draw()", Edges::drawSome),
            new NamedTail("heap() of kinds", Edges::heapKinds),
            new NamedTail("heap() of many", Edges::heapMany));

    private String where = "";
    private int wrong = 0;
    private int sentences = 0;

    /** What follows is the test of this sentence of the document. */
    void sentence(String heading, String words) {
        where = heading + ", \"" + words + "\"";
        sentences++;
    }

    void due(String call, int got, int want) {
        if (got != want) {
            wrong++;
            System.out.println(where + ": " + call + " answered " + told(got) + ", due is " + told(want));
        }
    }

    void due(String call, int[] got, int... want) {
        due(call + ": how many", got.length, want.length);
        for (int i = 0; i < got.length && i < want.length; i++) {
            due(call + " at " + i, got[i], want[i]);
        }
    }

    private static String told(int answer) {
        return answer == Watched.THROWN ? "an exception" : String.valueOf(answer);
    }

    static Watched made(Change state) {
        return new Watched().with(state);
    }

    /** In this state the call answers so, and all calls behind it show what they showed before. */
    void refused(String name, int want, Change state, Call call) {
        due(name, call.on(made(state)), want);
        List<Question> all = questions(state);
        int at = 0;
        while (at < all.size()) {
            at += sameAround(name, state, call, all.subList(at, all.size()));
        }
        for (NamedTail tail : TAILS) {
            sameBehind(name, state, call, tail);
        }
    }

    /** Asks as many as one object has calls for, before and behind the call; answers how many. */
    private int sameAround(String name, Change state, Call call, List<Question> questions) {
        Watched x = made(state);
        int n = Math.min(questions.size(), (x.callsLeft() - 1) / 2);
        if (n < 1) {
            throw new AssertionError("this state leaves no calls to ask");
        }
        int[] before = new int[n];
        for (int i = 0; i < n; i++) {
            before[i] = questions.get(i).call().on(x);
        }
        call.on(x);
        for (int i = 0; i < n; i++) {
            due(questions.get(i).name() + " behind " + name, questions.get(i).call().on(x), before[i]);
        }
        return n;
    }

    private void sameBehind(String name, Change state, Call call, NamedTail tail) {
        List<Integer> want = new ArrayList<>();
        List<Integer> got = new ArrayList<>();
        // One call less is left behind the refused one, so both stop as early.
        Watched plain = made(state);
        plain.count(0);
        tail.tail().on(plain, want);
        Watched x = made(state);
        call.on(x);
        tail.tail().on(x, got);
        if (!want.equals(got)) {
            wrong++;
            System.out.println(where + ": " + tail.name() + " behind " + name + " answered " + got + ", due is " + want);
        }
    }

    /** All calls that change nothing, with arguments up to the first beyond those that are there. */
    private static List<Question> questions(Change state) {
        Watched x = made(state);
        int fields = x.count(0);
        int sides = x.count(1);
        int draws = x.count(4);
        int parts = x.count(6);
        List<Question> all = new ArrayList<>();
        all.add(new Question("whose()", Watched::whose));
        all.add(new Question("loose()", Watched::loose));
        all.add(new Question("worth()", Watched::worth));
        all.add(new Question("simple()", Watched::simple));
        all.add(new Question("keep()", Watched::keep));
        all.add(new Question("longs()", Watched::longs));
        all.add(new Question("value()", Watched::value));
        ask(all, "count", 10, Watched::count);
        ask(all, "best", 17, Watched::best);
        ask(all, "give", 15, Watched::give);
        ask(all, "open", 15, Watched::open);
        ask(all, "worthOf", sides, Watched::worthOf);
        ask(all, "drawn", draws, Watched::drawn);
        askOfEach(all, "part", parts, 4, Watched::part);
        askOfEach(all, "look", fields, 3, Watched::look);
        askOfEach(all, "ask", sides, 3, Watched::ask);
        return all;
    }

    private interface OneNumber {
        int on(Watched x, int i);
    }

    private interface TwoNumbers {
        int on(Watched x, int i, int what);
    }

    private static void ask(List<Question> all, String name, int last, OneNumber call) {
        for (int i = 0; i <= last; i++) {
            int n = i;
            all.add(new Question(name + "(" + i + ")", x -> call.on(x, n)));
        }
    }

    private static void askOfEach(List<Question> all, String name, int last, int lastWhat, TwoNumbers call) {
        for (int i = 0; i <= last; i++) {
            int n = i;
            ask(all, name + " of " + i, lastWhat, (x, what) -> call.on(x, n, what));
        }
    }

    private static void backAndForth(Watched x, List<Integer> answers) {
        int answer = 0;
        while (answer != NONE && x.callsLeft() > 20) {
            answer = x.undo();
            answers.add(answer);
            answers.add(x.whose());
        }
        forth(x, answers);
    }

    private static void forth(Watched x, List<Integer> answers) {
        int answer = 0;
        while (answer != NONE && x.callsLeft() > 4) {
            answer = x.redo();
            answers.add(answer);
            answers.add(x.whose());
        }
        answers.add(x.count(8));
        answers.add(x.count(9));
    }

    private static void addFieldAndSide(Watched x, List<Integer> answers) {
        int field = x.field();
        answers.add(field);
        answers.add(x.side(field, NONE));
        answers.add(x.side(0, field));
        answers.add(x.side(field, 1));
    }

    private static void addSides(Watched x, List<Integer> answers) {
        for (int f = 0; f < 3; f++) {
            answers.add(x.side(f, NONE));
            answers.add(x.side(f, f + 1));
            answers.add(x.side(f + 2, f));
        }
    }

    private static void drawSome(Watched x, List<Integer> answers) {
        for (int s = 0; s < 30 && x.callsLeft() > 4; s++) {
            answers.add(x.draw(s));
            answers.add(x.whose());
        }
        answers.add(x.redo());
    }

    private static void heapKinds(Watched x, List<Integer> answers) {
        for (int length = 1; length <= 200 && x.callsLeft() > 12; length += length < 40 ? 1 : 20) {
            answers.add(x.heap(false, length, 1));
            answers.add(x.heap(true, length, 1));
        }
        answers.add(x.heap(false, 200, 1));
        answers.add(x.heap(true, 200, 1));
        answers.add(x.value());
    }

    private static void heapMany(Watched x, List<Integer> answers) {
        for (int length = 1; length <= 6; length++) {
            answers.add(x.heap(false, length, 1));
            answers.add(x.heap(false, length, 100));
            answers.add(x.heap(true, length, 100));
            answers.add(x.value());
        }
    }

    /** Ends the test, with exit code 1 if an answer was wrong. */
    void end() {
        System.out.println(sentences + " sentences with edges, " + wrong + " answers are not as due");
        if (wrong != 0) {
            System.exit(1);
        }
    }
}
