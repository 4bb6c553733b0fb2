import java.util.function.ToIntFunction;

/** Boundary cases of promises 9 to 15: chases that are seen. */
public final class EdgeChaseTests {
    private static final int NONE = Edge.NONE, UNKNOWN = Edge.UNKNOWN, OUTSIDE = Edge.OUTSIDE, NOT = Edge.NOT;
    private static final Edge EDGE = new Edge("EdgeChaseTests");
    /** A ring of 0, 1, 2, 4 and the place 3 beside 2: one of speed 1 who is at 3 is caught, a faster one is not. */
    private static final String SIDE_PLACE = "net 5;road 0 1;road 0 4;road 1 2;road 2 3;road 2 4";
    /** One of speed 2 who is at 2 is caught by a hunter from 3, one of speed 3 is not. */
    private static final String TWO_NOT_THREE =
        "net 6;road 0 1;road 0 2;road 0 3;road 0 5;road 1 2;road 1 3;road 3 4;road 4 5";
    private static final String TWO_RINGS =
        "net 8;road 0 1;road 1 2;road 2 3;road 3 0;road 4 5;road 5 6;road 6 7;road 7 4";

    public static void main(String[] args) {
        roundsCaught();
        roundsNone();
        roundsSpeed();
        roundsHunters();
        roundsRefused();
        worth();
        worthRefused();
        best();
        bestRefused();
        fewest();
        escapes();
        hunt();
        huntStays();
        huntRefused();
        flee();
        fleeRefused();
        EDGE.end(9, 15);
    }

    private static int at(int... places) {
        return Nets.at(places);
    }

    /** The refusals that rounds(), hunt(), flee() and play() share; a call is k, hunters, s, place. */
    static void refusesStands(Edge edge, int promise, StandCall call) {
        edge.of(promise, "OUTSIDE: k (1 .. 3)");
        for (int k : new int[] {0, 4, -1}) {
            edge.refused("k " + k, OUTSIDE, x -> call.ask(x, k, 0, 1, 3));
        }
        for (int wild : Edge.WILD) {
            edge.refused("k " + wild, OUTSIDE, x -> call.ask(x, wild, 0, 1, 3));
        }
        edge.of(promise, "OUTSIDE: s (1 .. 3)");
        for (int s : new int[] {0, 4, -1}) {
            edge.refused("s " + s, OUTSIDE, x -> call.ask(x, 1, 0, s, 3));
        }
        for (int wild : Edge.WILD) {
            edge.refused("s " + wild, OUTSIDE, x -> call.ask(x, 1, 0, wild, 3));
        }
        edge.of(promise, "OUTSIDE ahead");
        edge.refused("of a hunter, k 0", OUTSIDE, x -> call.ask(x, 0, 15, 1, 0));
        edge.refused("of a hunter, k 4", OUTSIDE, x -> call.ask(x, 4, at(5, 5, 5, 5), 1, 0));
        edge.refused("of a hunter, s 4", OUTSIDE, x -> call.ask(x, 1, 5, 4, 0));
        edge.refused("of a place, k 4", OUTSIDE, x -> call.ask(x, 4, 0, 1, 5));
        edge.refused("of a place, s 0", OUTSIDE, x -> call.ask(x, 1, 0, 0, -1));
        edge.refused("of one who is caught", OUTSIDE, x -> call.ask(x, 1, 3, 4, 3));
        edge.of(promise, "UNKNOWN: PLACES of hunters >> 4 i & 15");
        for (int i = 0; i < 3; i++) {
            for (int place : new int[] {5, 7, 8, 15}) {
                int hunters = place << 4 * i;
                for (int k = i + 1; k <= 3; k++) {
                    int of = k;
                    edge.refused("hunter " + i + " of " + k + " at " + place, UNKNOWN, x -> call.ask(x, of, hunters, 1, 3));
                }
            }
        }
        edge.refused("hunters -1", UNKNOWN, x -> call.ask(x, 3, -1, 1, 3));
        edge.of(promise, "UNKNOWN: a PLACE");
        edge.refused("below", UNKNOWN, x -> call.ask(x, 1, 0, 1, -1));
        edge.refused("n", UNKNOWN, x -> call.ask(x, 1, 0, 1, 5));
        for (int wild : Edge.WILD) {
            edge.refused("place " + wild, UNKNOWN, x -> call.ask(x, 1, 0, 1, wild));
        }
        edge.of(promise, "UNKNOWN: the ninth of eight PLACES");
        edge.due("hunter", UNKNOWN, call.ask(Nets.path(8), 1, 8, 1, 4));
        edge.due("third hunter", UNKNOWN, call.ask(Nets.path(8), 3, at(7, 7, 8), 1, 4));
        edge.due("place", UNKNOWN, call.ask(Nets.path(8), 1, 7, 1, 8));
    }

    /** A call of a stand. */
    interface StandCall {
        int ask(RunnerNet x, int k, int hunters, int s, int place);
    }

    // ---- promise 9

    private static void roundsCaught() {
        EDGE.of(9, "0: it is CAUGHT at the beginning");
        RunnerNet bare = Nets.bare(8);
        EDGE.due("by the one", 0, bare.rounds(1, 7, 1, 7));
        EDGE.due("by the first", 0, bare.rounds(3, at(7, 0, 1), 3, 7));
        EDGE.due("by the second", 0, bare.rounds(3, at(0, 7, 1), 3, 7));
        EDGE.due("by the third", 0, bare.rounds(3, at(0, 1, 7), 3, 7));
        EDGE.due("by all of them", 0, bare.rounds(3, at(7, 7, 7), 3, 7));
        EDGE.due("on the one place", 0, Nets.bare(1).rounds(1, 0, 3, 0));
        EDGE.of(9, "CAUGHT, if a HUNTER is where it is, behind HUNTERS' steps");
        EDGE.due("beside it", 1, Nets.path(2).rounds(1, 0, 3, 1));
        EDGE.due("by a way to it", 1, Texts.laid("net 2;way 0 1").rounds(1, 0, 1, 1));
        EDGE.due("not by its own way", NONE, Texts.laid("net 2;way 1 0").rounds(1, 0, 1, 1));
        EDGE.due("all joined", 1, Nets.allJoined(8).rounds(1, 0, 3, 7));
    }

    private static void roundsNone() {
        EDGE.of(9, "NONE: without end");
        EDGE.due("no road to it", NONE, Nets.bare(2).rounds(1, 0, 1, 1));
        EDGE.due("three and no road", NONE, Nets.bare(4).rounds(3, at(0, 1, 2), 1, 3));
        EDGE.due("a ring", NONE, Nets.ring(4).rounds(1, 0, 1, 2));
        EDGE.due("beside on a ring: caught", 1, Nets.ring(4).rounds(1, 0, 1, 3));
        EDGE.due("a ring of ways", NONE, Nets.oneWayRing(3).rounds(1, 0, 1, 2));
        EDGE.of(9, "the fewest in which HUNTERS surely CATCH it, whatever it does");
        RunnerNet path = Nets.path(8);
        for (int s = 1; s <= 3; s++) {
            EDGE.due("the whole path, speed " + s, 7, path.rounds(1, 0, s, 7));
            EDGE.due("driven to its end, speed " + s, 7, path.rounds(1, 0, s, 2));
            EDGE.due("beside, speed " + s, 1, path.rounds(1, 0, s, 1));
        }
    }

    private static void roundsSpeed() {
        EDGE.of(9, "goes by s ROADS at most");
        RunnerNet side = Texts.laid(SIDE_PLACE);
        EDGE.due("one is too few", 3, side.rounds(1, 0, 1, 3));
        EDGE.due("two are enough", NONE, side.rounds(1, 0, 2, 3));
        EDGE.due("so are three", NONE, side.rounds(1, 0, 3, 3));
        RunnerNet three = Texts.laid(TWO_NOT_THREE);
        EDGE.due("two are too few", 2, three.rounds(1, 3, 2, 2));
        EDGE.due("three are enough", NONE, three.rounds(1, 3, 3, 2));
        RunnerNet apart = Texts.laid("net 6;road 0 1;road 0 4;road 1 2;road 2 3;road 2 4");
        RunnerNet tail = Texts.laid("net 7;road 6 4;road 0 1;road 5 3;road 1 6;road 4 0;road 4 5");
        for (int k = 1; k <= 3; k++) {
            EDGE.due("one is too few, with hunters apart", 3, apart.rounds(k, at(0, 5, 5), 1, 3));
            EDGE.due("two are enough, with hunters apart", NONE, apart.rounds(k, at(0, 5, 5), 2, 3));
            EDGE.due("two are too few, with hunters apart", 4, tail.rounds(k, at(1, 2, 2), 2, 3));
            EDGE.due("three are enough, with hunters apart", NONE, tail.rounds(k, at(1, 2, 2), 3, 3));
        }
        EDGE.of(9, "never to a PLACE where a HUNTER is (it may stay)");
        EDGE.due("not through the middle", 2, Nets.path(5).rounds(1, 2, 3, 0));
        EDGE.due("it stays in its corner", 1, Nets.path(3).rounds(1, 1, 3, 2));
        EDGE.due("it stays and is safe", NONE, Texts.laid("net 3;road 0 1;way 2 1").rounds(1, 0, 1, 2));
    }

    private static void roundsHunters() {
        EDGE.of(9, "HUNTERS may be at one together");
        EDGE.due("two", 2, Nets.ring(4).rounds(2, at(0, 0), 1, 2));
        EDGE.due("three", 2, Nets.ring(4).rounds(3, at(0, 0, 0), 1, 2));
        EDGE.of(9, "PLACES of hunters >> 4 i & 15");
        RunnerNet path = Nets.path(8);
        EDGE.due("the last place", 7, path.rounds(1, 7, 1, 0));
        EDGE.due("bits above those of one", 7, path.rounds(1, at(7, 15, 15, 15), 1, 0));
        EDGE.due("bits above those of two", 3, path.rounds(2, at(7, 0, 15, 15), 1, 3));
        EDGE.due("bits above those of three", 3, path.rounds(3, at(7, 0, 7, 15, 15, 15, 15, 15), 1, 3));
        EDGE.due("any order", 3, path.rounds(2, at(0, 7), 1, 3));
    }

    private static void roundsRefused() {
        refusesStands(EDGE, 9, RunnerNet::rounds);
    }

    // ---- promise 10

    private static void worth() {
        EDGE.of(10, "the most ROUNDS for any PLACE of the one that FLEES");
        EDGE.due("one place", 0, Nets.bare(1).worth(1, 0, 1));
        EDGE.due("a hunter at each", 0, Nets.bare(3).worth(3, at(2, 0, 1), 3));
        EDGE.due("from the end", 7, Nets.path(8).worth(1, 7, 3));
        EDGE.due("from the middle", 4, Nets.path(8).worth(1, 3, 3));
        EDGE.due("all joined", 1, Nets.allJoined(8).worth(1, 7, 3));
        EDGE.of(10, "none, if for some there are none");
        EDGE.due("one place of three", NONE, Texts.laid("net 3;road 0 1").worth(1, 0, 1));
        EDGE.due("but that one has a hunter", 1, Texts.laid("net 3;road 0 1").worth(2, at(0, 2), 1));
        EDGE.due("across the ring", NONE, Nets.ring(4).worth(1, 0, 1));
        EDGE.of(10, "told as for rounds(), in any order");
        RunnerNet path = Nets.path(8);
        int[][] orders = {{0, 3, 7}, {0, 7, 3}, {3, 0, 7}, {3, 7, 0}, {7, 0, 3}, {7, 3, 0}};
        for (int[] order : orders) {
            EDGE.due("three", 2, path.worth(3, at(order), 1));
        }
        EDGE.due("bits above", 2, path.worth(3, at(7, 3, 0, 15), 1));
    }

    private static void worthRefused() {
        EDGE.of(10, "OUTSIDE (ahead)");
        for (int wild : new int[] {0, 4, -1, Integer.MIN_VALUE, Integer.MAX_VALUE, 257}) {
            EDGE.refused("k " + wild, OUTSIDE, x -> x.worth(wild, 15, 1));
            EDGE.refused("s " + wild, OUTSIDE, x -> x.worth(1, 15, wild));
        }
        EDGE.of(10, "UNKNOWN");
        for (int place : new int[] {5, 8, 15}) {
            EDGE.refused("first " + place, UNKNOWN, x -> x.worth(1, place, 1));
            EDGE.refused("second " + place, UNKNOWN, x -> x.worth(2, at(0, place), 1));
            EDGE.refused("third " + place, UNKNOWN, x -> x.worth(3, at(0, 0, place), 1));
        }
        EDGE.due("the ninth", UNKNOWN, Nets.path(8).worth(1, 8, 1));
        EDGE.due("hunters -1", UNKNOWN, Nets.path(8).worth(1, -1, 1));
    }

    // ---- promise 11

    private static void bestIs(RunnerNet x, int k, int s, int setting, int worth) {
        EDGE.due("setting of " + k + ", speed " + s, setting, x.best(k, s, 0));
        EDGE.due("worth of " + k + ", speed " + s, worth, x.best(k, s, 1));
    }

    private static void best() {
        EDGE.of(11, "that of the least WORTH");
        bestIs(Nets.bare(1), 1, 1, 0, 0);
        bestIs(Nets.bare(1), 3, 3, 0, 0);
        bestIs(Nets.bare(2), 2, 1, 1, 0);
        bestIs(Nets.bare(3), 3, 1, 8 + 2, 0);
        bestIs(Nets.path(7), 1, 3, 3, 3);
        bestIs(Texts.laid("net 8;road 7 0;road 7 1;road 7 2;road 7 3;road 7 4;road 7 5;road 7 6"), 1, 1, 7, 1);
        EDGE.of(11, "of several the least number");
        bestIs(Nets.path(8), 1, 1, 3, 4);
        bestIs(Nets.allJoined(8), 1, 1, 0, 1);
        bestIs(Nets.allJoined(8), 3, 3, 0, 1);
        bestIs(Nets.ring(4), 2, 3, 1, 1);
        EDGE.of(11, "NONE");
        bestIs(Nets.bare(2), 1, 1, NONE, NONE);
        bestIs(Nets.bare(4), 3, 1, NONE, NONE);
        bestIs(Nets.ring(4), 1, 1, NONE, NONE);
    }

    private static void bestRefused() {
        EDGE.of(11, "OUTSIDE");
        for (int wild : new int[] {0, 4, -1, Integer.MIN_VALUE, Integer.MAX_VALUE, 257}) {
            EDGE.refused("k " + wild, OUTSIDE, x -> x.best(wild, 1, 0));
            EDGE.refused("s " + wild, OUTSIDE, x -> x.best(1, wild, 0));
        }
        for (int what : new int[] {-1, 2, 3, Integer.MIN_VALUE, Integer.MAX_VALUE, 256, 257}) {
            EDGE.refused("what " + what, OUTSIDE, x -> x.best(1, 1, what));
            EDGE.due("what " + what + " without a best", OUTSIDE, Nets.bare(2).best(1, 1, what));
        }
        EDGE.due("k 3 and s 3 are not outside", 0, Nets.bare(1).best(3, 3, 1));
    }

    // ---- promise 12

    private static void fewestAre(String net, int slow, int fast, int fastest) {
        RunnerNet x = Texts.laid(net);
        EDGE.due("speed 1 on " + net, slow, x.fewest(1));
        EDGE.due("speed 2 on " + net, fast, x.fewest(2));
        EDGE.due("speed 3 on " + net, fastest, x.fewest(3));
    }

    private static void fewest() {
        EDGE.of(12, "the least k (1 .. 3) for which there is a SETTING with WORTH, for SPEED s");
        fewestAre("net 1", 1, 1, 1);
        fewestAre("net 2", 2, 2, 2);
        fewestAre("net 3", 3, 3, 3);
        fewestAre(SIDE_PLACE, 2, 2, 2);
        fewestAre("net 4;road 0 1;way 0 3;road 1 3;way 2 0;road 2 3", 1, 2, 2);
        fewestAre("net 5;way 0 3;road 0 4;way 1 2;road 1 3;road 1 4;way 2 0;way 4 3", 1, 1, 2);
        fewestAre("net 5;way 0 3;way 1 0;way 1 3;way 2 1;road 2 3", 2, 3, 3);
        EDGE.of(12, "NONE: not with three");
        fewestAre("net 4", NONE, NONE, NONE);
        fewestAre("net 8;road 0 1;road 2 3;road 4 5;road 6 7", NONE, NONE, NONE);
        fewestAre("net 6;road 0 1;road 2 3;road 4 5", 3, 3, 3);
        EDGE.of(12, "OUTSIDE");
        EDGE.refused("s 0", OUTSIDE, x -> x.fewest(0));
        EDGE.refused("s 4", OUTSIDE, x -> x.fewest(4));
        EDGE.refused("s -1", OUTSIDE, x -> x.fewest(-1));
        for (int wild : Edge.WILD) {
            EDGE.refused("s " + wild, OUTSIDE, x -> x.fewest(wild));
        }
    }

    // ---- promise 13

    private static void escapes() {
        EDGE.of(13, "How many stands (SETTINGS, and PLACES where no HUNTER is) are without end");
        EDGE.due("one place", 0, Nets.bare(1).escapes(3, 3));
        EDGE.due("two places, one hunter", 2, Nets.bare(2).escapes(1, 1));
        EDGE.due("two places, two hunters", 2, Nets.bare(2).escapes(2, 1));
        EDGE.due("two places, three hunters", 2, Nets.bare(2).escapes(3, 1));
        EDGE.due("eight, one", 8 * 7, Nets.bare(8).escapes(1, 1));
        EDGE.due("eight, two", 28 * 6 + 8 * 7, Nets.bare(8).escapes(2, 2));
        EDGE.due("eight, three", 56 * 5 + 56 * 6 + 8 * 7, Nets.bare(8).escapes(3, 3));
        EDGE.due("none", 0, Nets.path(8).escapes(1, 3));
        EDGE.due("across a ring of four", 4, Nets.ring(4).escapes(1, 1));
        EDGE.due("speed 1 of three ways", 3, Nets.oneWayRing(3).escapes(1, 1));
        EDGE.of(13, "OUTSIDE");
        for (int wild : new int[] {0, 4, -1, Integer.MIN_VALUE, Integer.MAX_VALUE, 257}) {
            EDGE.refused("k " + wild, OUTSIDE, x -> x.escapes(wild, 1));
            EDGE.refused("s " + wild, OUTSIDE, x -> x.escapes(1, wild));
        }
    }

    // ---- promise 14

    private static void hunt() {
        EDGE.of(14, "one that CATCHES at once: none are left");
        EDGE.due("from the middle", 2, Nets.path(3).hunt(1, 1, 1, 2));
        EDGE.due("rather than to 0, from where it is caught next", 7, Nets.allJoined(8).hunt(1, 3, 3, 7));
        EDGE.due("three, the last one catches", 7, Texts.laid("net 8;road 6 7").hunt(3, at(6, 0, 0), 1, 7));
        EDGE.of(14, "the fewest ROUNDS are left behind the best flight");
        EDGE.due("nearer", 6, Nets.path(8).hunt(1, 7, 1, 0));
        EDGE.due("both nearer", 8 + 6, Nets.path(8).hunt(2, at(7, 0), 1, 3));
        EDGE.of(14, "of several the least SETTING to which they can step");
        EDGE.due("both can catch", 0, Nets.ring(4).hunt(2, at(3, 1), 1, 0));
        EDGE.due("the other one may go where it likes", 1, Nets.allJoined(3).hunt(2, at(2, 2), 1, 1));
        EDGE.due("rising, as a number", 8 + 2, Texts.laid("net 3;road 0 2").hunt(2, at(1, 0), 1, 2));
    }

    private static void huntStays() {
        EDGE.of(14, "if all are without end, they stay");
        EDGE.due("one on a ring", 3, Nets.ring(5).hunt(1, 3, 1, 1));
        EDGE.due("two on another ring", 1, Texts.laid(TWO_RINGS).hunt(2, at(1, 0), 1, 6));
        EDGE.due("three on another ring", (8 + 2) * 8 + 3, Texts.laid(TWO_RINGS).hunt(3, at(3, 1, 2), 3, 6));
        EDGE.due("at the last places", 511 - 64, Texts.laid("net 8;road 6 7").hunt(3, at(7, 6, 7), 1, 0));
        EDGE.due("all at the last place", 511, Nets.bare(8).hunt(3, at(7, 7, 7), 1, 0));
    }

    private static void huntRefused() {
        refusesStands(EDGE, 14, RunnerNet::hunt);
        caughtIsNot(14, RunnerNet::hunt);
    }

    private static void caughtIsNot(int promise, StandCall call) {
        EDGE.of(promise, "NOT: it is CAUGHT already");
        EDGE.refused("by the one", NOT, x -> call.ask(x, 1, 4, 3, 4));
        EDGE.refused("by the first", NOT, x -> call.ask(x, 3, at(3, 1, 0), 1, 3));
        EDGE.refused("by the second", NOT, x -> call.ask(x, 3, at(1, 3, 0), 1, 3));
        EDGE.refused("by the third", NOT, x -> call.ask(x, 3, at(1, 0, 3), 1, 3));
        EDGE.due("on the one place", NOT, call.ask(Nets.bare(1), 1, 0, 1, 0));
        EDGE.of(promise, "NOT: behind UNKNOWN and OUTSIDE");
        EDGE.refused("another hunter's place", UNKNOWN, x -> call.ask(x, 2, at(3, 5), 1, 3));
        EDGE.refused("like, and no place", UNKNOWN, x -> call.ask(x, 1, 5, 1, 5));
        EDGE.refused("k", OUTSIDE, x -> call.ask(x, 4, 3, 1, 3));
        ToIntFunction<RunnerNet> free = x -> call.ask(x, 1, at(0, 3), 1, 3) == NOT ? 1 : 0;
        EDGE.due("bits above are no hunters", 0, free.applyAsInt(Edge.busy()));
    }

    // ---- promise 15

    private static void flee() {
        EDGE.of(15, "without end is most");
        EDGE.due("not to 1, where it is caught", 2, Texts.laid("net 3;way 0 1;way 2 0;way 2 1").flee(1, 0, 1, 2));
        EDGE.of(15, "the most ROUNDS are left");
        EDGE.due("further on", 2, Texts.laid("net 3;way 0 1;way 1 2").flee(1, 0, 1, 1));
        EDGE.of(15, "of several the least");
        RunnerNet back = Texts.laid("net 8;road 7 6;road 6 5;road 5 4;road 4 3;road 3 2;road 2 1");
        EDGE.due("one road", 6, back.flee(1, 0, 1, 7));
        EDGE.due("two roads", 5, back.flee(1, 0, 2, 7));
        EDGE.due("three roads", 4, back.flee(1, 0, 3, 7));
        EDGE.due("it is at the least", 1, back.flee(1, 0, 3, 1));
        EDGE.due("to the least of all", 0, Nets.path(4).flee(1, 3, 1, 1));
        EDGE.of(15, "never to a PLACE where a HUNTER is (it may stay)");
        EDGE.due("not through", 7, back.flee(1, 6, 3, 7));
        EDGE.due("not past the second", 7, back.flee(2, at(0, 5), 3, 7));
        EDGE.due("nor past the third", 7, back.flee(3, at(0, 0, 5), 3, 7));
        EDGE.due("not against a way", 1, Texts.laid("net 3;way 0 1").flee(1, 2, 3, 1));
        EDGE.of(15, "HUNTERS having stepped");
        EDGE.due("it goes, though one step would catch it", 2, Nets.path(4).flee(1, 0, 1, 1));
        EDGE.due("it stays", 1, Nets.path(2).flee(1, 0, 3, 1));
    }

    private static void fleeRefused() {
        refusesStands(EDGE, 15, RunnerNet::flee);
        caughtIsNot(15, RunnerNet::flee);
    }
}
