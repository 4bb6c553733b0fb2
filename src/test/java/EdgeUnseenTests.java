/** Boundary cases of promises 19 to 22: one who is not seen, and hunters that fly. */
public final class EdgeUnseenTests {
    private static final int NONE = Edge.NONE, UNKNOWN = Edge.UNKNOWN, OUTSIDE = Edge.OUTSIDE;
    private static final Edge EDGE = new Edge("EdgeUnseenTests");

    public static void main(String[] args) {
        spread();
        spreadOutside();
        spreadUnknown();
        clearAtOnce();
        clearRows();
        clearLong();
        clearFirstRow();
        clearNone();
        clearRefused();
        free();
        freeRefused();
        flying();
        flyingOrders();
        flyingRefused();
        EDGE.end(19, 22);
    }

    private static int at(int... places) {
        return Nets.at(places);
    }

    private static int set(int... places) {
        return Nets.set(places);
    }

    // ---- promise 19

    private static void spread() {
        EDGE.of(19, "then it is not where one of them is");
        RunnerNet path = Nets.path(4);
        EDGE.due("found", 0, path.spread(1, 2, set(2)));
        EDGE.due("found by the second", 0, path.spread(2, at(0, 3), set(3)));
        EDGE.due("both found", 0, path.spread(2, at(3, 0), set(0, 3)));
        EDGE.of(19, "then it may have gone by one ROAD, or stayed");
        EDGE.due("one road, not two", set(1, 2, 3), path.spread(1, 0, set(2)));
        EDGE.due("along a way", set(0, 1), Texts.laid("net 3;way 0 1").spread(1, 2, set(0)));
        EDGE.due("not against it", set(1), Texts.laid("net 3;way 0 1").spread(1, 2, set(1)));
        EDGE.of(19, "not to a PLACE where a HUNTER is");
        EDGE.due("it stays", set(0), path.spread(1, 1, set(0)));
        EDGE.due("between two", set(1), path.spread(2, at(2, 0), set(1)));
        EDGE.due("two at one", set(0, 2, 3), path.spread(2, at(1, 1), set(0, 3)));
        EDGE.of(19, "if it may have been in a set");
        EDGE.due("in none", 0, Nets.allJoined(8).spread(1, 0, 0));
        EDGE.due("in all of eight", 127, Nets.allJoined(8).spread(1, 7, 255));
        EDGE.due("in all of one", 0, Nets.bare(1).spread(1, 0, 1));
        EDGE.of(19, "PLACES of hunters ahead do not matter");
        EDGE.due("any setting", set(0, 1, 2), path.spread(1, 3, set(0, 1, 3)));
        EDGE.due("then another one, far from it", set(1, 2, 3), path.spread(1, 0, set(0, 1, 3)));
    }

    private static void spreadOutside() {
        EDGE.of(19, "OUTSIDE: k (1, 2)");
        for (int wild : new int[] {0, 3, -1, Integer.MIN_VALUE, Integer.MAX_VALUE, 257}) {
            EDGE.refused("k " + wild, OUTSIDE, x -> x.spread(wild, 0, 1));
        }
        EDGE.of(19, "OUTSIDE: bits of no PLACES");
        for (int n = 1; n <= 8; n++) {
            int all = (1 << n) - 1;
            EDGE.due("all of " + n, all & ~1, Nets.bare(n).spread(1, 0, all));
            EDGE.due("one more than " + n, OUTSIDE, Nets.bare(n).spread(1, 0, 1 << n));
            EDGE.due("all and one more than " + n, OUTSIDE, Nets.bare(n).spread(1, 0, all + 1 | 1));
        }
        for (int wild : Edge.WILD) {
            if (wild != 16) {
                EDGE.refused("set " + wild, OUTSIDE, x -> x.spread(1, 0, wild));
            }
        }
        EDGE.refused("set -1", OUTSIDE, x -> x.spread(1, 0, -1));
        EDGE.of(19, "OUTSIDE ahead");
        EDGE.refused("k and a hunter", OUTSIDE, x -> x.spread(3, 5, 1));
        EDGE.refused("bits and a hunter", OUTSIDE, x -> x.spread(1, 5, 32));
    }

    private static void spreadUnknown() {
        EDGE.of(19, "UNKNOWN: a PLACE of a HUNTER");
        for (int place : new int[] {5, 7, 8, 15}) {
            EDGE.refused("the one " + place, UNKNOWN, x -> x.spread(1, place, 1));
            EDGE.refused("the first " + place, UNKNOWN, x -> x.spread(2, at(place, 0), 1));
            EDGE.refused("the second " + place, UNKNOWN, x -> x.spread(2, at(0, place), 1));
        }
        EDGE.due("the ninth", UNKNOWN, Nets.bare(8).spread(1, 8, 1));
        EDGE.due("hunters -1", UNKNOWN, Nets.bare(8).spread(1, -1, 0));
        EDGE.due("bits above those of one", 2, Nets.bare(8).spread(1, at(0, 15, 15), 2));
        EDGE.due("bits above those of two", 2, Nets.bare(8).spread(2, at(0, 0, 15), 2));
    }

    // ---- promise 20

    private static void rowOf(RunnerNet x, int k, int hunters, int... row) {
        EDGE.due("steps from " + hunters, row.length - 1, x.clear(k, hunters, -1));
        for (int i = 0; i < row.length; i++) {
            EDGE.due("setting " + i + " from " + hunters, row[i], x.clear(k, hunters, i));
        }
        EDGE.due("one more from " + hunters, NONE, x.clear(k, hunters, row.length));
        EDGE.due("far more from " + hunters, NONE, x.clear(k, hunters, Integer.MAX_VALUE));
    }

    private static void clearAtOnce() {
        EDGE.of(20, "how many steps (i -1), or the i-th SETTING (0: the first one)");
        rowOf(Nets.bare(1), 1, 0, 0);
        rowOf(Nets.bare(1), 2, 0, 0);
        rowOf(Nets.bare(2), 2, at(1, 0), 1);
        rowOf(Nets.path(2), 1, 1, 1, 0);
        rowOf(Nets.path(8), 1, 7, 7, 6, 5, 4, 3, 2, 1, 0);
        rowOf(Nets.path(8), 1, at(0, 15), 0, 1, 2, 3, 4, 5, 6, 7);
    }

    private static void clearRows() {
        EDGE.of(20, "each by steps from the one ahead");
        rowOf(Nets.oneWayRing(2), 1, 1, 1, 0);
        rowOf(Texts.laid("net 3;way 0 1;way 1 2"), 1, 0, 0, 1, 2);
        rowOf(Nets.path(4), 2, at(3, 0), 3, 8 + 2);
        EDGE.of(20, "it may be at all PLACES where no HUNTER is");
        rowOf(Texts.laid("net 2;way 0 1"), 1, 0, 0, 1);
        RunnerNet back = Texts.laid("net 2;way 0 1");
        EDGE.due("not from the end of a way", NONE, back.clear(1, 1, -1));
        EDGE.due("not along two ways", NONE, Texts.laid("net 3;way 0 1;way 0 2").clear(1, 0, -1));
        EDGE.of(20, "CLEAR: the fewest steps");
        rowOf(Nets.path(5), 1, 2, 2, 1, 0, 1, 2, 3, 4);
        rowOf(Nets.path(5), 1, 3, 3, 4, 3, 2, 1, 0);
        EDGE.of(20, "asked for one SETTING after another");
        RunnerNet x = Nets.path(5);
        for (int again = 0; again < 2; again++) {
            EDGE.due("from 0", 4, x.clear(1, 0, -1));
            EDGE.due("from 3", 5, x.clear(1, 3, -1));
            EDGE.due("from 0 and 0", 4, x.clear(2, 0, -1));
            EDGE.due("free", 0, x.free(1, 0));
        }
        EDGE.due("from 3", 5, x.clear(1, 3, -1));
        EDGE.due("from 0 behind it", 4, x.clear(1, 0, -1));
        EDGE.due("one from 1", 5, x.clear(1, 1, -1));
        EDGE.due("two from 0 and 1", 3, x.clear(2, at(1, 0), -1));
        EDGE.due("one from 1 again", 5, x.clear(1, 1, -1));
        EDGE.due("one at any", 4, x.free(1, 1));
        EDGE.due("two at any", 2, x.free(2, 1));
        EDGE.due("one at any again", 4, x.free(1, 1));
        x.road(3, 4, true, false);
        EDGE.due("on another net", NONE, x.clear(1, 1, -1));
        EDGE.due("two on another net", 4, x.clear(2, at(4, 1), -1));
    }

    private static void clearLong() {
        EDGE.of(20, "the fewest steps: a search with many stands");
        rowOf(Texts.laid("net 8;road 1 0;road 0 6;road 4 3;road 7 4;road 7 0;road 4 0;road 4 6;road 2 0;road 0 5"),
            2, at(6, 0), 6, 12, 3, 20, 4, 47);
        EDGE.of(20, "the fewest steps: a row that is long");
        RunnerNet x = Texts.laid(
            "net 8;road 3 2;road 3 4;road 2 6;road 1 0;road 6 4;road 3 1;road 5 6;road 4 7;road 7 0;road 2 7;road 0 6");
        rowOf(x, 2, at(7, 7), 63, 0, 6, 5, 6, 1, 30, 20, 55, 2, 11, 4, 55, 20, 30, 1, 6, 5);
        EDGE.due("the least setting of that net", 5, x.free(2, 0));
        EDGE.due("its steps", 14, x.free(2, 1));
    }

    private static void clearFirstRow() {
        EDGE.of(20, "of several rows the first (by SETTINGS)");
        rowOf(Nets.path(3), 1, 1, 1, 0, 1, 2);
        rowOf(Nets.allJoined(3), 2, at(1, 0), 1, 2);
        rowOf(Nets.allJoined(3), 2, at(2, 2), 2 * 8 + 2, 1);
        rowOf(Nets.allJoined(3), 2, at(0, 0), 0, 8 + 2);
        rowOf(Nets.path(3), 2, at(2, 0), 2, 1);
    }

    private static void clearNone() {
        EDGE.of(20, "NONE: it cannot be");
        RunnerNet ring = Nets.ring(3);
        for (int i = -1; i < 3; i++) {
            EDGE.due("ring, " + i, NONE, ring.clear(1, 0, i));
            EDGE.due("bare, " + i, NONE, Nets.bare(3).clear(2, at(0, 1), i));
        }
        EDGE.due("ring, far more", NONE, ring.clear(1, 0, Integer.MAX_VALUE));
        EDGE.due("all joined, two", NONE, Nets.allJoined(8).clear(2, at(0, 7), -1));
        EDGE.of(20, "or there are not so many");
        EDGE.due("the last", 2, Nets.path(3).clear(1, 0, 2));
        EDGE.due("one more", NONE, Nets.path(3).clear(1, 0, 3));
        EDGE.due("far more", NONE, Nets.path(3).clear(1, 0, 256));
    }

    private static void clearRefused() {
        EDGE.of(20, "OUTSIDE: k");
        for (int wild : new int[] {0, 3, -1, Integer.MIN_VALUE, Integer.MAX_VALUE, 257}) {
            EDGE.refused("k " + wild, OUTSIDE, x -> x.clear(wild, 0, 0));
        }
        EDGE.of(20, "OUTSIDE: i below -1");
        for (int i : new int[] {-2, -3, -256, Integer.MIN_VALUE}) {
            EDGE.refused("i " + i, OUTSIDE, x -> x.clear(1, 0, i));
        }
        EDGE.of(20, "OUTSIDE (ahead)");
        EDGE.refused("k and a hunter", OUTSIDE, x -> x.clear(3, 5, 0));
        EDGE.refused("i and a hunter", OUTSIDE, x -> x.clear(1, 5, -2));
        EDGE.of(20, "UNKNOWN");
        for (int place : new int[] {5, 7, 8, 15}) {
            EDGE.refused("the one " + place, UNKNOWN, x -> x.clear(1, place, -1));
            EDGE.refused("the first " + place, UNKNOWN, x -> x.clear(2, at(place, 0), 0));
            EDGE.refused("the second " + place, UNKNOWN, x -> x.clear(2, at(0, place), 99));
        }
        EDGE.due("the ninth", UNKNOWN, Nets.bare(8).clear(1, 8, -1));
        EDGE.due("hunters -1", UNKNOWN, Nets.bare(8).clear(1, -1, -1));
    }

    // ---- promise 21

    private static void freeIs(RunnerNet x, int k, int setting, int steps) {
        EDGE.due("setting of " + k, setting, x.free(k, 0));
        EDGE.due("steps of " + k, steps, x.free(k, 1));
    }

    private static void free() {
        EDGE.of(21, "the fewest steps of all");
        freeIs(Nets.bare(1), 1, 0, 0);
        freeIs(Nets.bare(1), 2, 0, 0);
        freeIs(Nets.bare(2), 2, 1, 0);
        freeIs(Nets.path(8), 1, 0, 7);
        freeIs(Texts.laid("net 3;way 2 1;way 1 0"), 1, 2, 2);
        EDGE.of(21, "of several the least SETTING");
        freeIs(Nets.path(2), 1, 0, 1);
        freeIs(Nets.allJoined(3), 2, 0, 1);
        freeIs(Nets.path(3), 2, 1, 1);
        EDGE.of(21, "NONE");
        freeIs(Nets.bare(2), 1, NONE, NONE);
        freeIs(Nets.bare(3), 2, NONE, NONE);
        freeIs(Nets.ring(3), 1, NONE, NONE);
        freeIs(Nets.allJoined(5), 2, NONE, NONE);
    }

    private static void freeRefused() {
        EDGE.of(21, "OUTSIDE");
        for (int wild : new int[] {0, 3, -1, Integer.MIN_VALUE, Integer.MAX_VALUE, 257}) {
            EDGE.refused("k " + wild, OUTSIDE, x -> x.free(wild, 0));
        }
        for (int what : new int[] {-1, 2, Integer.MIN_VALUE, Integer.MAX_VALUE, 256, 257}) {
            EDGE.refused("what " + what, OUTSIDE, x -> x.free(1, what));
            EDGE.due("what " + what + " where there is none", OUTSIDE, Nets.bare(3).free(1, what));
        }
    }

    // ---- promise 22

    private static void flyingIs(RunnerNet x, boolean seen, int hunters, int... order) {
        String how = seen ? "seen, " : "not seen, ";
        EDGE.due(how + "how many", hunters, x.flying(seen, -1));
        for (int i = 0; i < order.length; i++) {
            EDGE.due(how + "place " + i, order[i], x.flying(seen, i));
        }
        EDGE.due(how + "one more", NONE, x.flying(seen, order.length));
        EDGE.due(how + "far more", NONE, x.flying(seen, Integer.MAX_VALUE));
    }

    private static void flying() {
        for (int mode = 0; mode < 2; mode++) {
            boolean seen = mode == 1;
            EDGE.of(22, "and one more: where there are no ROADS");
            flyingIs(Nets.bare(1), seen, 1, 0);
            flyingIs(Nets.bare(8), seen, 1, 0, 1, 2, 3, 4, 5, 6, 7);
            EDGE.of(22, "and one more: where all are joined");
            flyingIs(Nets.allJoined(8), seen, 8, 0, 1, 2, 3, 4, 5, 6, 7);
            EDGE.of(22, "Each least number");
            flyingIs(Nets.path(8), seen, 2, 0, 1, 2, 3, 4, 5, 6, 7);
            flyingIs(Nets.ring(8), seen, 3, 0, 1, 2, 3, 4, 5, 6, 7);
            EDGE.of(22, "by ROADS taken both ways");
            flyingIs(Nets.oneWayRing(3), seen, 3, 0, 1, 2);
            flyingIs(Texts.laid("net 2;way 1 0"), seen, 2, 0, 1);
            flyingIs(Texts.laid("net 2;way 0 1"), seen, 2, 0, 1);
        }
    }

    private static void flyingOrders() {
        EDGE.of(22, "of these that have a neighbour among the others");
        flyingIs(Nets.star(4), false, 2, 0, 1, 2, 3);
        flyingIs(Texts.laid("road 3 0;road 3 1;road 3 2"), false, 2, 0, 3, 1, 2);
        EDGE.of(22, "the most neighbours that one has then");
        flyingIs(Nets.star(4), true, 2, 1, 2, 0, 3);
        EDGE.of(22, "by those taken away ahead that join both");
        flyingIs(Nets.ring(4), true, 3, 0, 1, 2, 3);
        flyingIs(Texts.laid("net 5;road 0 3;road 0 4;road 1 3;road 1 4;road 2 3;road 2 4"), true, 3, 0, 1, 2, 3, 4);
        flyingIs(Texts.laid("net 6;road 0 4;road 4 1;road 2 5;road 5 3;road 0 2;road 0 3;road 1 2;road 1 3"),
            true, 4, 0, 1, 2, 3, 4, 5);
        flyingIs(Texts.laid("net 6;road 2 0;road 0 1;road 1 3;road 2 4;road 2 5;road 3 4;road 3 5;road 4 5"),
            true, 4, 0, 1, 2, 3, 4, 5);
        EDGE.of(22, "not seen needs more than seen");
        RunnerNet legs = Texts.laid("net 7;road 0 1;road 1 2;road 2 3;road 2 4;road 4 5;road 2 6");
        EDGE.due("seen", 2, legs.flying(true, -1));
        RunnerNet three = Texts.laid("net 7;road 0 1;road 1 2;road 2 3;road 3 4;road 2 5;road 5 6");
        EDGE.due("three long legs seen", 2, three.flying(true, -1));
        EDGE.due("three long legs not seen", 3, three.flying(false, -1));
        EDGE.due("a short leg not seen", 2, legs.flying(false, -1));
    }

    private static void flyingRefused() {
        for (int i : new int[] {-2, -3, -256, Integer.MIN_VALUE}) {
            EDGE.of(22, "OUTSIDE: i below -1");
            EDGE.refused("seen, " + i, OUTSIDE, x -> x.flying(true, i));
            EDGE.refused("not seen, " + i, OUTSIDE, x -> x.flying(false, i));
        }
        EDGE.of(22, "NONE: there are not so many");
        for (int n = 1; n <= 8; n++) {
            EDGE.due("the last of " + n, n - 1, Nets.bare(n).flying(true, n - 1));
            EDGE.due("one more than " + n, NONE, Nets.bare(n).flying(true, n));
            EDGE.due("the last of " + n + ", not seen", n - 1, Nets.bare(n).flying(false, n - 1));
            EDGE.due("one more than " + n + ", not seen", NONE, Nets.bare(n).flying(false, n));
        }
        for (int far : new int[] {8, 16, 32, 256, Integer.MAX_VALUE}) {
            EDGE.due("far more, " + far, NONE, Nets.allJoined(8).flying(true, far));
            EDGE.due("far more, not seen, " + far, NONE, Nets.allJoined(8).flying(false, far));
        }
    }
}
