import java.util.function.Supplier;
import java.util.function.ToIntFunction;

/** Tests of boundary cases: each is named by its promise's number and the document's words, shortened at need. */
final class Edge {
    static final int NONE = -1, UNKNOWN = -2, OUTSIDE = -3, NOT = -4, FULL = -5;
    /** Numbers that are too small or too large for anything, some of them 0 or 1 in their lowest bits. */
    static final int[] WILD = {
        Integer.MIN_VALUE, Integer.MIN_VALUE + 1, -256, -32, -16, -2, 16, 32, 33, 64, 256, 257, Integer.MAX_VALUE
    };
    private static final int PROMISES = 28;

    private final Check check;
    private final int[] asked = new int[PROMISES + 1];
    private int promise;
    private String test;

    Edge(String name) {
        check = new Check(name);
    }

    /** Begins a test. */
    void of(int number, String words) {
        promise = number;
        test = "promise " + number + ", \"" + words + "\": ";
    }

    void due(String call, long want, long got) {
        asked[promise]++;
        check.due(test + call, want, got);
    }

    /** A net, a text without fault and a play behind its first round, so that a change of each is seen. */
    static RunnerNet busy() {
        RunnerNet x = Texts.laid("net 5;road 0 1;road 1 2;road 2 3;way 3 4");
        x.play(2, Nets.at(1, 0), 1, 4);
        x.turn(Nets.at(0, 2), 4);
        Texts.write(x, "net 3;way 2 0");
        return x;
    }

    void refused(String call, int want, ToIntFunction<RunnerNet> asking) {
        refused(call, want, Edge::busy, asking);
    }

    /** The answer of a call that is refused, and that an object that was not asked is like the other one. */
    void refused(String call, int want, Supplier<RunnerNet> made, ToIntFunction<RunnerNet> asking) {
        RunnerNet x = made.get();
        due(call, want, asking.applyAsInt(x));
        boolean same = told(x).equals(told(made.get()));
        due(call + " changes nothing", 1, same ? 1 : 0);
    }

    /** All that can be seen of an object; it is another one then. */
    private static String told(RunnerNet x) {
        StringBuilder all = new StringBuilder();
        net(all, x);
        play(all, x);
        all.append(" fault ").append(x.fault());
        all.append(" turn ").append(x.turn(-1, -1));
        play(all, x);
        all.append(" laid ").append(x.laid());
        net(all, x);
        return all.toString();
    }

    private static void net(StringBuilder all, RunnerNet x) {
        for (int what = 0; what < 4; what++) {
            all.append(" count ").append(x.count(what));
        }
        for (int p = 0; p < 8; p++) {
            all.append(" steps ").append(x.steps(p));
        }
    }

    private static void play(StringBuilder all, RunnerNet x) {
        for (int what = 0; what < 4; what++) {
            all.append(" now ").append(x.now(what));
        }
    }

    /** Ends the tests of the promises from one to another: each of them must have been asked for. */
    void end(int first, int last) {
        for (int number = first; number <= last; number++) {
            check.holds("tests of promise " + number, asked[number] > 0);
        }
        check.end();
    }
}
