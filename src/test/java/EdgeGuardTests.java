/** Boundary cases of promises 23 to 28: places taken away, sets of places, guards, counts. */
public final class EdgeGuardTests {
    private static final int NONE = Edge.NONE, UNKNOWN = Edge.UNKNOWN, OUTSIDE = Edge.OUTSIDE, NOT = Edge.NOT;
    private static final int ALONE = 0, TOGETHER = 1;
    private static final Edge EDGE = new Edge("EdgeGuardTests");

    public static void main(String[] args) {
        away();
        awayWays();
        awayWins();
        awayRefused();
        leastSees();
        leastTouches();
        safe();
        safeModes();
        safeRefused();
        guards();
        guardsAllPlaces();
        guardsRefused();
        answer();
        answerNone();
        answerRefused();
        count();
        countRefused();
        EDGE.end(23, 28);
    }

    private static int set(int... places) {
        return Nets.set(places);
    }

    // ---- promise 23

    private static void takenAway(RunnerNet x, int left, int... places) {
        EDGE.due("left", left, x.away(-1));
        for (int i = 0; i < places.length; i++) {
            EDGE.due("taken " + i, places[i], x.away(i));
        }
        EDGE.due("one more", NONE, x.away(places.length));
        EDGE.due("far more", NONE, x.away(Integer.MAX_VALUE));
    }

    private static void away() {
        EDGE.of(23, "COVERED by another one");
        takenAway(Nets.bare(1), 1);
        takenAway(Nets.bare(8), 8);
        takenAway(Nets.path(2), 1, 0);
        takenAway(Nets.ring(3), 1, 0, 1);
        EDGE.of(23, "till none is");
        takenAway(Nets.ring(4), 4);
        takenAway(Nets.ring(8), 8);
        takenAway(Texts.laid("net 5;road 0 1;road 1 2;road 2 3;road 3 0;road 0 4"), 4, 4);
        EDGE.of(23, "the least PLACE that is COVERED by one that is left, among those that are left");
        takenAway(Nets.allJoined(8), 1, 0, 1, 2, 3, 4, 5, 6);
        takenAway(Nets.path(8), 1, 0, 1, 2, 3, 4, 5, 6);
        takenAway(Nets.star(8), 1, 1, 2, 3, 4, 5, 6, 0);
        takenAway(Texts.laid("net 4;road 1 0;road 0 3;road 3 2"), 1, 1, 0, 2);
        EDGE.of(23, "two nets apart");
        takenAway(Texts.laid("net 4;road 0 1;road 2 3"), 2, 0, 2);
    }

    private static void awayWays() {
        EDGE.of(23, "a way of one goes for none here");
        takenAway(Texts.laid("net 2;way 0 1"), 2);
        takenAway(Texts.laid("net 2;way 1 0"), 2);
        takenAway(Texts.laid("net 2;way 1 0;way 0 1"), 1, 0);
        takenAway(Texts.laid("net 3;road 0 1;way 2 0;way 1 2"), 2, 0);
        takenAway(Nets.oneWayRing(8), 8);
        RunnerNet x = Nets.path(2);
        x.road(0, 1, false, false);
        takenAway(x, 2);
    }

    private static void awayWins() {
        EDGE.of(23, "ONE HUNTER of SPEED 1 wins just if one PLACE is left");
        for (int n = 1; n <= 5; n++) {
            int pairs = n * (n - 1) / 2;
            for (int bits = 0; bits < 1 << pairs; bits++) {
                RunnerNet x = Nets.bare(n);
                int pair = 0;
                for (int a = 0; a < n; a++) {
                    for (int b = a + 1; b < n; b++) {
                        x.road(a, b, true, (bits >> pair & 1) != 0);
                        pair++;
                    }
                }
                boolean one = x.away(-1) == 1;
                EDGE.due("net " + bits + " of " + n, one ? 1 : 0, x.fewest(1) == 1 ? 1 : 0);
            }
        }
    }

    private static void awayRefused() {
        EDGE.of(23, "OUTSIDE: i below -1");
        for (int i : new int[] {-2, -3, -256, Integer.MIN_VALUE}) {
            EDGE.refused("i " + i, OUTSIDE, x -> x.away(i));
        }
        EDGE.of(23, "NONE");
        for (int i : new int[] {7, 8, 32, 256, Integer.MAX_VALUE}) {
            EDGE.due("i " + i, NONE, Nets.allJoined(8).away(i));
        }
        EDGE.due("no first one", NONE, Nets.bare(1).away(0));
    }

    // ---- promise 24

    private static void leastSees() {
        EDGE.of(24, "from which each PLACE is come to in a step at most");
        EDGE.due("one place", 1, Nets.bare(1).least(0));
        EDGE.due("eight bare ones", 255, Nets.bare(8).least(0));
        EDGE.due("a star", 1, Nets.star(8).least(0));
        EDGE.due("along a way", set(0), Texts.laid("net 2;way 0 1").least(0));
        EDGE.due("along the other", set(1), Texts.laid("net 2;way 1 0").least(0));
        EDGE.of(24, "of the fewest");
        EDGE.due("the highest place alone", set(7),
            Texts.laid("net 8;way 7 0;way 7 1;way 7 2;way 7 3;way 7 4;way 7 5;way 7 6").least(0));
        EDGE.of(24, "of several the least number (bits)");
        EDGE.due("all joined", 1, Nets.allJoined(8).least(0));
        EDGE.due("a ring of four", set(0, 1), Nets.ring(4).least(0));
        EDGE.due("a path of six", set(1, 4), Nets.path(6).least(0));
        EDGE.of(24, "OUTSIDE");
        EDGE.refused("what -1", OUTSIDE, x -> x.least(-1));
        EDGE.refused("what 2", OUTSIDE, x -> x.least(2));
        for (int wild : Edge.WILD) {
            EDGE.refused("what " + wild, OUTSIDE, x -> x.least(wild));
        }
    }

    private static void leastTouches() {
        EDGE.of(24, "of which one is at each ROAD: none, where there is none");
        EDGE.due("one place", 0, Nets.bare(1).least(1));
        EDGE.due("eight places", 0, Nets.bare(8).least(1));
        EDGE.of(24, "of which one is at each ROAD");
        EDGE.due("a star", 1, Nets.star(8).least(1));
        EDGE.due("a way's least end", set(0), Texts.laid("net 2;way 1 0").least(1));
        EDGE.due("where ways meet", set(2), Texts.laid("net 4;way 0 2;way 1 2;way 3 2").least(1));
        EDGE.due("a ring of ways", set(0, 1), Nets.oneWayRing(3).least(1));
        EDGE.of(24, "likewise, the least");
        EDGE.due("all joined", 127, Nets.allJoined(8).least(1));
        EDGE.due("a ring of four", set(0, 2), Nets.ring(4).least(1));
        EDGE.due("the highest place alone", set(7), Texts.laid("net 8;road 7 0;road 7 1;way 6 7;way 7 5").least(1));
        EDGE.due("four roads apart", set(0, 2, 4, 6), Texts.laid("net 8;road 0 1;road 2 3;road 4 5;road 6 7").least(1));
    }

    // ---- promise 25

    private static void safe() {
        EDGE.of(25, "each CALL can be answered, again and again for ever");
        EDGE.due("the third call is too much", 0, Nets.path(5).safe(set(1, 3), ALONE));
        EDGE.due("three can", 1, Nets.path(5).safe(set(0, 2, 4), ALONE));
        EDGE.due("never back on a way", 0, Texts.laid("net 2;way 0 1").safe(set(0), ALONE));
        EDGE.due("never back on a way, together", 0, Texts.laid("net 2;way 0 1").safe(set(0), TOGETHER));
        EDGE.due("back on a road", 1, Nets.path(2).safe(set(0), ALONE));
        EDGE.due("round a ring of ways", 0, Nets.oneWayRing(3).safe(set(0), ALONE));
        EDGE.due("one for all joined", 1, Nets.allJoined(8).safe(set(7), ALONE));
        EDGE.due("seven of eight bare ones", 0, Nets.bare(8).safe(127, TOGETHER));
        RunnerNet roads = Texts.laid("net 8;road 0 1;road 2 3;road 4 5;road 6 7");
        EDGE.due("one on each of four roads", 1, roads.safe(set(0, 2, 4, 6), ALONE));
        EDGE.due("two on one road", 0, roads.safe(set(0, 1, 2, 6), ALONE));
    }

    private static void safeModes() {
        EDGE.of(25, "ALONE (mode 0) one GUARD steps there by a ROAD, all others stay");
        EDGE.due("ring of five", 0, Nets.ring(5).safe(set(0, 2), ALONE));
        EDGE.due("star", 0, Nets.star(4).safe(set(0, 1), ALONE));
        EDGE.of(25, "TOGETHER (1) each GUARD may step, to unlike PLACES, so that one comes there");
        EDGE.due("ring of five", 1, Nets.ring(5).safe(set(0, 2), TOGETHER));
        EDGE.due("star", 1, Nets.star(4).safe(set(0, 1), TOGETHER));
        EDGE.due("star, but one at its middle", 0, Nets.star(4).safe(set(1, 2), TOGETHER));
    }

    private static void safeRefused() {
        EDGE.of(25, "OUTSIDE: none at all");
        EDGE.refused("alone", OUTSIDE, x -> x.safe(0, ALONE));
        EDGE.refused("together", OUTSIDE, x -> x.safe(0, TOGETHER));
        EDGE.of(25, "OUTSIDE: bits of no PLACES");
        for (int n = 1; n <= 8; n++) {
            EDGE.due("all of " + n, 1, Nets.bare(n).safe((1 << n) - 1, ALONE));
            EDGE.due("one more than " + n, OUTSIDE, Nets.bare(n).safe(1 << n, ALONE));
            EDGE.due("all and one more than " + n, OUTSIDE, Nets.bare(n).safe((2 << n) - 1, TOGETHER));
        }
        EDGE.refused("set -1", OUTSIDE, x -> x.safe(-1, ALONE));
        for (int wild : Edge.WILD) {
            if (wild != 16) {
                EDGE.refused("set " + wild, OUTSIDE, x -> x.safe(wild, ALONE));
            }
        }
        EDGE.of(25, "OUTSIDE: mode 0, 1");
        EDGE.refused("mode -1", OUTSIDE, x -> x.safe(1, -1));
        EDGE.refused("mode 2", OUTSIDE, x -> x.safe(1, 2));
        for (int wild : Edge.WILD) {
            EDGE.refused("mode " + wild, OUTSIDE, x -> x.safe(1, wild));
        }
    }

    // ---- promise 26

    private static void fewest(RunnerNet x, int mode, int guards, int least, int sets) {
        EDGE.due("how many, mode " + mode, guards, x.guards(mode, 0));
        EDGE.due("the least set, mode " + mode, least, x.guards(mode, 1));
        EDGE.due("sets, mode " + mode, sets, x.guards(mode, 2));
    }

    private static void guards() {
        for (int mode = 0; mode < 2; mode++) {
            EDGE.of(26, "FEWEST GUARDS: one");
            fewest(Nets.bare(1), mode, 1, 1, 1);
            fewest(Nets.path(2), mode, 1, 1, 2);
            fewest(Nets.allJoined(8), mode, 1, 1, 8);
            EDGE.of(26, "FEWEST GUARDS: all PLACES");
            fewest(Nets.bare(2), mode, 2, 3, 1);
            fewest(Nets.bare(8), mode, 8, 255, 1);
        }
        EDGE.of(26, "the least SAFE set of so many");
        fewest(Nets.path(4), ALONE, 2, set(0, 2), 4);
        fewest(Nets.ring(5), ALONE, 3, set(0, 1, 2), 10);
        fewest(Nets.ring(5), TOGETHER, 2, set(0, 2), 5);
        fewest(Nets.star(4), ALONE, 3, set(0, 1, 2), 4);
        fewest(Nets.star(4), TOGETHER, 2, set(0, 1), 3);
        EDGE.of(26, "a way is gone but once");
        fewest(Texts.laid("net 2;way 0 1"), ALONE, 2, 3, 1);
        fewest(Texts.laid("net 3;way 2 0;way 2 1"), TOGETHER, 3, 7, 1);
    }

    private static void guardsAllPlaces() {
        EDGE.of(26, "All PLACES are SAFE always");
        String[] nets = {"net 1", "net 8", "net 3;way 0 1", "net 8;road 0 7;way 3 4", "net 4;road 0 1;road 1 2;road 2 3"};
        for (String net : nets) {
            RunnerNet x = Texts.laid(net);
            int all = (1 << x.count(0)) - 1;
            EDGE.due("alone, " + net, 1, x.safe(all, ALONE));
            EDGE.due("together, " + net, 1, x.safe(all, TOGETHER));
        }
    }

    private static void guardsRefused() {
        EDGE.of(26, "OUTSIDE");
        for (int wild : new int[] {-1, 2, 3, Integer.MIN_VALUE, Integer.MAX_VALUE, 256, 257}) {
            EDGE.refused("mode " + wild, OUTSIDE, x -> x.guards(wild, 0));
        }
        for (int wild : new int[] {-1, 3, 4, Integer.MIN_VALUE, Integer.MAX_VALUE, 256, 257}) {
            EDGE.refused("what " + wild, OUTSIDE, x -> x.guards(0, wild));
            EDGE.refused("what " + wild + ", together", OUTSIDE, x -> x.guards(1, wild));
        }
    }

    // ---- promise 27

    private static void answer() {
        EDGE.of(27, "the least SAFE set to which a CALL can be answered");
        EDGE.due("of two the one that is safe", set(1, 2), Nets.path(4).answer(set(0, 2), ALONE, 1));
        EDGE.due("of two that are safe", set(0, 1), Nets.ring(4).answer(set(0, 2), ALONE, 1));
        EDGE.due("the highest place", set(7), Nets.allJoined(8).answer(set(0), ALONE, 7));
        EDGE.due("the lowest place", set(0), Nets.allJoined(8).answer(set(7), TOGETHER, 0));
        EDGE.due("the highest places of many", 128 + 32 + 16 + 8 + set(1, 6),
            Texts.laid("net 8;road 0 6;road 6 1;road 1 2").answer(set(0, 1, 3, 4, 5, 7), TOGETHER, 6));
        EDGE.of(27, "ALONE: all others stay");
        EDGE.due("alone", set(1, 2), Nets.path(4).answer(set(1, 3), ALONE, 2));
        EDGE.of(27, "TOGETHER: each GUARD may step, to unlike PLACES");
        EDGE.due("both step", set(0, 2), Nets.path(4).answer(set(1, 3), TOGETHER, 2));
        EDGE.due("not two to one", set(0, 2), Nets.allJoined(3).answer(set(0, 1), TOGETHER, 2));
        EDGE.due("all four step", set(0, 1, 2, 3),
            Texts.laid("net 8;road 0 7;road 1 6;road 2 5;road 3 4").answer(0xF0, TOGETHER, 0));
        EDGE.due("two change places with none between", set(2, 0), Nets.star(4).answer(set(0, 1), TOGETHER, 2));
    }

    private static void answerNone() {
        EDGE.of(27, "NONE: there is none");
        EDGE.due("no guard near", NONE, Nets.path(4).answer(set(0, 1), ALONE, 3));
        EDGE.due("no guard near, together", NONE, Nets.path(4).answer(set(0, 1), TOGETHER, 3));
        EDGE.due("none safe behind it", NONE, Nets.path(5).answer(set(0, 3), ALONE, 2));
        EDGE.due("against a way", NONE, Texts.laid("net 2;way 0 1").answer(set(1), ALONE, 0));
        EDGE.due("never back", NONE, Texts.laid("net 2;way 0 1").answer(set(0), TOGETHER, 1));
        EDGE.due("bare", NONE, Nets.bare(8).answer(127, TOGETHER, 7));
    }

    private static void answerRefused() {
        EDGE.of(27, "UNKNOWN");
        EDGE.refused("place -1", UNKNOWN, x -> x.answer(1, 0, -1));
        EDGE.refused("place 5", UNKNOWN, x -> x.answer(1, 0, 5));
        for (int wild : Edge.WILD) {
            EDGE.refused("place " + wild, UNKNOWN, x -> x.answer(1, 0, wild));
        }
        EDGE.due("the ninth", UNKNOWN, Nets.bare(8).answer(1, 0, 8));
        EDGE.of(27, "the first of these that fits: UNKNOWN ahead of OUTSIDE");
        EDGE.refused("set", UNKNOWN, x -> x.answer(0, 0, 5));
        EDGE.refused("mode", UNKNOWN, x -> x.answer(1, 2, 5));
        EDGE.refused("set and mode", UNKNOWN, x -> x.answer(-1, -1, -1));
        EDGE.of(27, "OUTSIDE: set, mode");
        EDGE.refused("no set", OUTSIDE, x -> x.answer(0, 0, 1));
        EDGE.refused("bits of no place", OUTSIDE, x -> x.answer(32, 0, 1));
        EDGE.refused("bits of no place beside", OUTSIDE, x -> x.answer(33, 1, 1));
        EDGE.refused("set -1", OUTSIDE, x -> x.answer(-1, 0, 1));
        EDGE.refused("mode -1", OUTSIDE, x -> x.answer(1, -1, 1));
        EDGE.refused("mode 2", OUTSIDE, x -> x.answer(1, 2, 1));
        EDGE.of(27, "the first of these that fits: OUTSIDE ahead of NOT");
        EDGE.refused("set with a guard there", OUTSIDE, x -> x.answer(33, 0, 0));
        EDGE.refused("mode with a guard there", OUTSIDE, x -> x.answer(1, 2, 0));
        EDGE.of(27, "NOT: there is a GUARD at the PLACE");
        for (int place = 0; place < 5; place++) {
            int p = place;
            EDGE.refused("alone, " + p, NOT, x -> x.answer(1 << p, ALONE, p));
            EDGE.refused("all places, " + p, NOT, x -> x.answer(31, TOGETHER, p));
        }
    }

    // ---- promise 28

    private static void count() {
        EDGE.of(28, "0 PLACES");
        for (int n = 1; n <= 8; n++) {
            EDGE.due("places " + n, n, Nets.bare(n).count(0));
        }
        EDGE.of(28, "1 pairs from which one goes to the other by a ROAD");
        EDGE.due("none", 0, Nets.bare(8).count(1));
        EDGE.due("a way", 1, Texts.laid("net 2;way 0 1").count(1));
        EDGE.due("a road", 2, Nets.path(2).count(1));
        EDGE.due("all", 56, Nets.allJoined(8).count(1));
        EDGE.of(28, "2 bytes of THE TEXT");
        RunnerNet x = new RunnerNet();
        EDGE.due("none", 0, x.count(2));
        for (int i = 0; i < 20; i++) {
            x.write(0x2020202020202020L, 8);
        }
        EDGE.due("all", 160, x.count(2));
        EDGE.of(28, "3 ROUNDS gone of the PLAY (0 without)");
        EDGE.due("no play", 0, x.count(3));
        x.play(1, 0, 1, 3);
        EDGE.due("at its beginning", 0, x.count(3));
        x.turn(-1, -1);
        EDGE.due("a round", 1, x.count(3));
        x.turn(1, -1);
        EDGE.due("a turn that was refused", 1, x.count(3));
        x.road(0, 1, true, true);
        EDGE.due("no play any more", 0, x.count(3));
    }

    private static void countRefused() {
        EDGE.of(28, "OUTSIDE");
        EDGE.refused("what -1", OUTSIDE, x -> x.count(-1));
        EDGE.refused("what 4", OUTSIDE, x -> x.count(4));
        for (int wild : Edge.WILD) {
            EDGE.refused("what " + wild, OUTSIDE, x -> x.count(wild));
        }
    }
}
