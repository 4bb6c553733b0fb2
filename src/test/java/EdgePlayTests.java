import java.util.function.Supplier;

/** Boundary cases of promises 16 to 18: a play. */
public final class EdgePlayTests {
    private static final int UNKNOWN = Edge.UNKNOWN, OUTSIDE = Edge.OUTSIDE, NOT = Edge.NOT;
    private static final Edge EDGE = new Edge("EdgePlayTests");

    public static void main(String[] args) {
        play();
        playRefused();
        turnHunters();
        turnFlight();
        turnSpeed();
        turnBest();
        turnCaught();
        turnNotAheadOfAll();
        turnUnknown();
        turnCannot();
        turnPlay();
        now();
        nowRefused();
        EDGE.end(16, 18);
    }

    private static int at(int... places) {
        return Nets.at(places);
    }

    private static RunnerNet playing(RunnerNet x, int k, int hunters, int s, int place) {
        EDGE.due("play", 1, x.play(k, hunters, s, place));
        return x;
    }

    private static void stands(RunnerNet x, int setting, int place, int gone, int caught) {
        EDGE.due("setting", setting, x.now(0));
        EDGE.due("place", place, x.now(1));
        EDGE.due("rounds", gone, x.now(2));
        EDGE.due("count(3)", gone, x.count(3));
        EDGE.due("caught", caught, x.now(3));
    }

    // ---- promise 16

    private static void play() {
        EDGE.of(16, "A PLAY begins in place of that which was: 1");
        RunnerNet x = playing(Nets.path(8), 3, at(7, 0, 3), 3, 5);
        stands(x, 3 * 8 + 7, 5, 0, 0);
        EDGE.due("turn", 0, x.turn(at(0, 3, 7), 5));
        stands(x, 3 * 8 + 7, 5, 1, 0);
        playing(x, 1, 7, 1, 0);
        stands(x, 7, 0, 0, 0);
        EDGE.of(16, "CAUGHT at the beginning");
        playing(x, 2, at(4, 2), 1, 4);
        stands(x, 2 * 8 + 4, 4, 0, 1);
        playing(x, 2, at(4, 2), 1, 3);
        stands(x, 2 * 8 + 4, 3, 0, 0);
        RunnerNet one = playing(Nets.bare(1), 3, 0, 3, 0);
        stands(one, 0, 0, 0, 1);
        EDGE.of(16, "A SETTING is a row of k PLACES, rising (some may be alike)");
        stands(playing(Nets.bare(8), 3, at(7, 7, 7), 1, 0), 511, 0, 0, 0);
        stands(playing(Nets.bare(8), 3, at(7, 0, 7), 1, 1), 63, 1, 0, 0);
        stands(playing(Nets.bare(8), 3, at(2, 1, 0, 9), 1, 7), 8 + 2, 7, 0, 0);
        stands(playing(Nets.bare(8), 2, at(6, 5, 4), 1, 7), 5 * 8 + 6, 7, 0, 0);
        stands(playing(Nets.bare(8), 1, at(6, 5, 4), 1, 7), 6, 7, 0, 0);
    }

    private static void playRefused() {
        EdgeChaseTests.refusesStands(EDGE, 16, RunnerNet::play);
        EDGE.of(16, "refused where there is no PLAY");
        EDGE.refused("k 4", OUTSIDE, RunnerNet::new, x -> x.play(4, 0, 1, 0));
        EDGE.refused("place 4", UNKNOWN, RunnerNet::new, x -> x.play(1, 0, 1, 4));
    }

    // ---- promise 17

    private static void turnHunters() {
        EDGE.of(17, "HUNTER i, in the order of the SETTING, to hunters >> 4 i & 15");
        RunnerNet x = playing(Nets.path(8), 3, at(6, 0, 3), 1, 4);
        EDGE.due("the least place's hunter is the first", 0, x.turn(at(1, 2, 7), 5));
        stands(x, (8 + 2) * 8 + 7, 5, 1, 0);
        EDGE.refused("not in the order told to play()", NOT,
            () -> playing(Nets.path(8), 3, at(6, 0, 3), 1, 4), y -> y.turn(at(7, 1, 2), 5));
        RunnerNet two = playing(Nets.path(4), 2, at(1, 0), 1, 3);
        EDGE.due("they change places", 0, two.turn(at(1, 0), 3));
        stands(two, 1, 3, 1, 0);
        EDGE.due("they come to one", 0, two.turn(at(1, 1), 3));
        stands(two, 8 + 1, 3, 2, 0);
        EDGE.due("and go from it", 0, two.turn(at(2, 0), 3));
        stands(two, 2, 3, 3, 0);
        RunnerNet one = playing(Nets.path(8), 1, 0, 1, 7);
        EDGE.due("bits above those of one", 0, one.turn(at(1, 15, 15), 7));
        EDGE.due("negative bits above", 0, one.turn(-16 | 2, 7));
        stands(one, 2, 7, 2, 0);
    }

    private static void turnFlight() {
        EDGE.of(17, "never to a PLACE where a HUNTER is, behind HUNTERS' steps");
        RunnerNet ring = playing(Nets.ring(4), 1, 0, 1, 3);
        EDGE.due("to where the hunter was", 0, ring.turn(1, 0));
        stands(ring, 1, 0, 1, 0);
        EDGE.refused("to where it is", NOT, () -> playing(Nets.path(8), 1, 1, 1, 3), x -> x.turn(2, 2));
        EDGE.refused("through where it is", NOT, () -> playing(Nets.path(8), 1, 1, 3, 3), x -> x.turn(2, 1));
        EDGE.refused("to the second", NOT, () -> playing(Nets.path(8), 2, at(5, 1), 3, 3), x -> x.turn(at(1, 4), 4));
        EDGE.refused("against a way", NOT, () -> playing(Texts.laid("net 3;way 0 1"), 1, 2, 3, 1), x -> x.turn(2, 0));
        EDGE.due("along a way", 0, playing(Texts.laid("net 3;way 0 1"), 1, 2, 1, 0).turn(2, 1));
        EDGE.of(17, "it may stay");
        RunnerNet stays = playing(Nets.path(8), 1, 0, 1, 7);
        EDGE.due("as told", 0, stays.turn(0, 7));
        stands(stays, 0, 7, 1, 0);
    }

    private static void turnSpeed() {
        EDGE.of(17, "goes by s ROADS at most");
        for (int speed = 1; speed <= 3; speed++) {
            int s = speed;
            RunnerNet x = playing(Nets.path(8), 1, 0, s, 3);
            EDGE.due(s + " roads", 0, x.turn(0, 3 + s));
            stands(x, 0, 3 + s, 1, 0);
            EDGE.refused(s + 1 + " roads", NOT, () -> playing(Nets.path(8), 1, 0, s, 3), y -> y.turn(0, 4 + s));
        }
        EDGE.due("speed 3 by one road", 0, playing(Nets.path(8), 1, 0, 3, 3).turn(0, 4));
    }

    private static void turnBest() {
        EDGE.of(17, "HUNTERS step, by BEST (hunters -1)");
        RunnerNet x = playing(Nets.path(8), 1, 7, 1, 2);
        EDGE.due("best and told", 0, x.turn(-1, 3));
        stands(x, 6, 3, 1, 0);
        RunnerNet ring = playing(Nets.ring(5), 1, 3, 1, 1);
        EDGE.due("they stay", 0, ring.turn(-1, 0));
        stands(ring, 3, 0, 1, 0);
        RunnerNet three = playing(Nets.path(8), 3, at(0, 0, 7), 1, 3);
        EDGE.due("three", 0, three.turn(-1, 3));
        stands(three, 8 + 6, 3, 1, 0);
        EDGE.of(17, "it FLEES by BEST (place -1)");
        RunnerNet told = playing(Texts.laid("net 3;way 0 1;way 2 0;way 2 1"), 1, 0, 1, 2);
        EDGE.due("told and best", 0, told.turn(0, -1));
        stands(told, 0, 2, 1, 0);
        RunnerNet fast = playing(Texts.laid("net 8;road 7 6;road 6 5;road 5 4;road 4 3"), 1, 0, 3, 7);
        EDGE.due("three roads", 0, fast.turn(0, -1));
        stands(fast, 0, 4, 1, 0);
        EDGE.of(17, "both by BEST, to the catch");
        RunnerNet both = playing(Nets.path(5), 1, 0, 1, 4);
        for (int round = 1; round < 4; round++) {
            EDGE.due("round " + round, 0, both.turn(-1, -1));
        }
        EDGE.due("round 4", 1, both.turn(-1, -1));
        EDGE.due("as rounds() says", 4, both.now(2));
    }

    private static void turnCaught() {
        EDGE.of(17, "1, if it is CAUGHT");
        for (int place = -1; place < 3; place++) {
            RunnerNet x = playing(Nets.path(3), 1, 0, 1, 1);
            EDGE.due("place " + place + " does not matter", 1, x.turn(1, place));
            stands(x, 1, 1, 1, 1);
        }
        RunnerNet best = playing(Nets.path(5), 1, 2, 1, 3);
        EDGE.due("by best, a place too far does not matter", 1, best.turn(-1, 0));
        stands(best, 3, 3, 1, 1);
        RunnerNet third = playing(Nets.path(8), 3, at(0, 1, 6), 3, 7);
        EDGE.due("by the third", 1, third.turn(at(0, 1, 7), -1));
        stands(third, 8 + 7, 7, 1, 1);
        EDGE.of(17, "place does not matter, but that it is told right");
        for (int wild : new int[] {3, -2, 32, 33, Integer.MIN_VALUE, Integer.MAX_VALUE}) {
            Supplier<RunnerNet> beside = () -> playing(Nets.path(3), 1, 0, 1, 1);
            EDGE.refused("place " + wild, UNKNOWN, beside, x -> x.turn(1, wild));
            EDGE.refused("place " + wild + ", by best", UNKNOWN, beside, x -> x.turn(-1, wild));
        }
    }

    private static RunnerNet caught() {
        RunnerNet x = playing(Nets.path(3), 1, 0, 1, 1);
        x.turn(1, -1);
        return x;
    }

    private static void turnNotAheadOfAll() {
        int[][] told = {{-1, -1}, {0, 0}, {15, 0}, {0, 15}, {15, 15}, {-2, -2}, {2, 0}};
        for (int[] turn : told) {
            String call = "turn " + turn[0] + " " + turn[1];
            EDGE.of(17, "NOT: there is no PLAY (ahead of all)");
            EDGE.refused(call, NOT, RunnerNet::new, x -> x.turn(turn[0], turn[1]));
            EDGE.of(17, "NOT: it is CAUGHT already (ahead of all)");
            EDGE.refused(call + ", caught in a turn", NOT, EdgePlayTests::caught, x -> x.turn(turn[0], turn[1]));
            EDGE.refused(call + ", caught at the beginning", NOT,
                () -> playing(Nets.path(3), 2, at(0, 1), 1, 1), x -> x.turn(turn[0], turn[1]));
        }
        EDGE.of(17, "NOT no more, when another PLAY begins");
        RunnerNet x = caught();
        playing(x, 1, 0, 1, 2);
        EDGE.due("turn", 0, x.turn(0, 2));
    }

    private static RunnerNet three() {
        return playing(Nets.path(5), 3, at(0, 1, 2), 1, 4);
    }

    private static void turnUnknown() {
        EDGE.of(17, "UNKNOWN: a PLACE");
        for (int place : new int[] {5, 7, 8, 15}) {
            EDGE.refused("first hunter " + place, UNKNOWN, EdgePlayTests::three, x -> x.turn(at(place, 1, 2), 4));
            EDGE.refused("second hunter " + place, UNKNOWN, EdgePlayTests::three, x -> x.turn(at(0, place, 2), 4));
            EDGE.refused("third hunter " + place, UNKNOWN, EdgePlayTests::three, x -> x.turn(at(0, 1, place), 4));
            EDGE.refused("place " + place, UNKNOWN, EdgePlayTests::three, x -> x.turn(at(0, 1, 2), place));
            EDGE.refused("place " + place + ", by best", UNKNOWN, EdgePlayTests::three, x -> x.turn(-1, place));
        }
        EDGE.refused("hunters -2", UNKNOWN, EdgePlayTests::three, x -> x.turn(-2, 4));
        for (int wild : Edge.WILD) {
            EDGE.refused("place " + wild, UNKNOWN, EdgePlayTests::three, x -> x.turn(at(0, 1, 2), wild));
        }
        EDGE.due("the ninth", UNKNOWN, playing(Nets.path(8), 1, 0, 1, 7).turn(8, 7));
        EDGE.of(17, "UNKNOWN ahead of NOT: one cannot go so");
        EDGE.refused("a hunter too far, a place unknown", UNKNOWN, EdgePlayTests::three, x -> x.turn(at(4, 1, 2), 5));
        EDGE.refused("a hunter too far, another unknown", UNKNOWN, EdgePlayTests::three, x -> x.turn(at(4, 1, 5), 4));
        EDGE.refused("a place too far, a hunter unknown", UNKNOWN, EdgePlayTests::three, x -> x.turn(at(0, 1, 5), 0));
    }

    private static void turnCannot() {
        EDGE.of(17, "NOT: one cannot go so (nothing changes then)");
        EDGE.refused("the first hunter", NOT, EdgePlayTests::three, x -> x.turn(at(2, 1, 2), 4));
        EDGE.refused("the second hunter", NOT, EdgePlayTests::three, x -> x.turn(at(0, 3, 2), 4));
        EDGE.refused("the third hunter", NOT, EdgePlayTests::three, x -> x.turn(at(0, 1, 0), 4));
        EDGE.refused("the one who flees", NOT, EdgePlayTests::three, x -> x.turn(at(0, 1, 2), 2));
        EDGE.refused("the one who flees, hunters by best", NOT, EdgePlayTests::three, x -> x.turn(-1, 1));
        EDGE.refused("a hunter, though it would catch", NOT, EdgePlayTests::three, x -> x.turn(at(0, 1, 4), 4));
        EDGE.refused("a hunter, though another one catches", NOT,
            () -> playing(Nets.path(5), 2, at(0, 3), 1, 4), x -> x.turn(at(2, 4), 4));
        EDGE.refused("a hunter, it fleeing by best", NOT, EdgePlayTests::three, x -> x.turn(at(0, 1, 4), -1));
        EDGE.refused("a hunter against a way", NOT,
            () -> playing(Texts.laid("net 3;way 0 1"), 1, 1, 1, 2), x -> x.turn(0, 2));
    }

    private static void turnPlay() {
        EDGE.of(17, "A PLAY has a stand, k and s as when it began");
        RunnerNet x = playing(Nets.path(8), 1, 0, 2, 3);
        x.hunt(3, at(7, 7, 7), 1, 0);
        x.rounds(2, at(7, 7), 3, 0);
        x.play(4, 0, 1, 0);
        EDGE.due("two roads still", 0, x.turn(0, 5));
        EDGE.due("one hunter still", 0, x.turn(at(1, 15), 7));
        stands(x, 1, 7, 2, 0);
        Texts.write(x, "net 3");
        x.fault();
        x.erase();
        stands(x, 1, 7, 2, 0);
    }

    // ---- promise 18

    private static void now() {
        EDGE.of(18, "the SETTING (what 0), where it is (1), ROUNDS gone (2), whether it is CAUGHT (3; 1, 0)");
        RunnerNet x = playing(Nets.path(8), 3, at(7, 6, 0), 1, 3);
        stands(x, 6 * 8 + 7, 3, 0, 0);
        EDGE.due("turn", 0, x.turn(at(1, 5, 7), 2));
        stands(x, (8 + 5) * 8 + 7, 2, 1, 0);
        EDGE.due("turn", 1, x.turn(at(2, 4, 6), 0));
        stands(x, (2 * 8 + 4) * 8 + 6, 2, 2, 1);
        EDGE.due("no turn", NOT, x.turn(-1, -1));
        stands(x, (2 * 8 + 4) * 8 + 6, 2, 2, 1);
    }

    private static void nowRefused() {
        for (int what : new int[] {-1, 4, 5, 32, 256, 257, Integer.MIN_VALUE, Integer.MAX_VALUE}) {
            EDGE.of(18, "OUTSIDE");
            EDGE.refused("what " + what, OUTSIDE, x -> x.now(what));
            EDGE.of(18, "the first of these that fits: OUTSIDE ahead of NOT");
            EDGE.refused("what " + what + " without a play", OUTSIDE, RunnerNet::new, x -> x.now(what));
        }
        EDGE.of(18, "NOT: there is none");
        for (int number = 0; number < 4; number++) {
            int what = number;
            EDGE.refused("what " + what, NOT, RunnerNet::new, x -> x.now(what));
            RunnerNet ended = Edge.busy();
            ended.road(0, 1, true, true);
            EDGE.due("what " + what + " behind road", NOT, ended.now(what));
            RunnerNet laid = Edge.busy();
            laid.laid();
            EDGE.due("what " + what + " behind laid", NOT, laid.now(what));
        }
    }
}
