/** For each promise of the document ordinary inputs, its edges and wrong inputs, worked out by hand. */
public final class PromiseTests {
    private static final int NONE = -1, UNKNOWN = -2, OUTSIDE = -3, NOT = -4, FULL = -5;
    private static final String PATH_3 = "net 3;road 0 1;road 1 2";
    private static final String PATH_4 = "net 4;road 0 1;road 1 2;road 2 3";
    private static final String PATH_5 = PATH_4.replace("net 4", "net 5") + ";road 3 4";
    private static final String RING_3 = PATH_3 + ";road 2 0";
    private static final String RING_4 = PATH_4 + ";road 3 0";
    private static final String RING_5 = PATH_5 + ";road 4 0";
    private static final String ONE_WAY_3 = "net 3;way 0 1;way 1 2;way 2 0";

    private static final Check CHECK = new Check("PromiseTests");
    private static int promise;

    public static void main(String[] args) {
        newObject();
        write();
        erase();
        fault();
        laid();
        road();
        steps();
        far();
        rounds();
        worth();
        best();
        fewest();
        escapes();
        hunt();
        flee();
        play();
        turn();
        now();
        spread();
        clear();
        free();
        flying();
        away();
        least();
        safe();
        guards();
        answer();
        count();
        CHECK.end();
    }

    private static void due(String call, long want, long got) {
        CHECK.due("promise " + promise + ": " + call, want, got);
    }

    /** What a set of places is as bits. */
    private static int set(int... places) {
        int bits = 0;
        for (int p : places) {
            bits |= 1 << p;
        }
        return bits;
    }

    /** Hunters told, the first in the lowest four bits. */
    private static int at(int... places) {
        int hunters = 0;
        for (int i = 0; i < places.length; i++) {
            hunters |= places[i] << 4 * i;
        }
        return hunters;
    }

    private static void newObject() {
        promise = 1;
        RunnerNet x = new RunnerNet();
        due("NONE", NONE, RunnerNet.NONE);
        due("UNKNOWN", UNKNOWN, RunnerNet.UNKNOWN);
        due("OUTSIDE", OUTSIDE, RunnerNet.OUTSIDE);
        due("NOT", NOT, RunnerNet.NOT);
        due("FULL", FULL, RunnerNet.FULL);
        due("places", 4, x.count(0));
        due("roads", 0, x.count(1));
        due("text", 0, x.count(2));
        due("no play", NOT, x.now(0));
        for (int p = 0; p < 4; p++) {
            due("steps " + p, 1 << p, x.steps(p));
        }
        due("a fifth place", UNKNOWN, x.steps(4));
        RunnerNet y = new RunnerNet();
        y.road(0, 1, true, true);
        due("another object's road", 1, x.steps(0));
    }

    private static void write() {
        promise = 2;
        RunnerNet x = new RunnerNet();
        due("no bytes", OUTSIDE, x.write(0, 0));
        due("minus one byte", OUTSIDE, x.write(0, -1));
        due("nine bytes", OUTSIDE, x.write(0, 9));
        due("nothing is written", 0, x.count(2));
        due("the lowest bytes alone", 5, x.write(Texts.bytes("net 3abc"), 5));
        due("the first byte lowest", 3, x.laid());
        due("bytes of 255", 8, x.write(-1L, 8));
        due("a byte of 255 is at fault", 0, x.fault());
        x.erase();
        for (int i = 1; i <= 19; i++) {
            due("eight more", 8 * i, x.write(0x2020202020202020L, 8));
        }
        due("four more", 156, x.write(0x20202020, 4));
        due("five are too many", FULL, x.write(0x2020202020L, 5));
        due("nothing is written then", 156, x.count(2));
        due("four fit", 160, x.write(0x20202020, 4));
        due("one is too many", FULL, x.write(32, 1));
        due("outside ahead of full", OUTSIDE, x.write(32, 9));
        due("full changes nothing", 160, x.count(2));
    }

    private static void erase() {
        promise = 3;
        RunnerNet x = Texts.laid(PATH_5);
        due("nothing", 0, x.erase());
        Texts.write(x, "net 3");
        due("five bytes", 5, x.erase());
        due("none left", 0, x.count(2));
        due("nothing again", 0, x.erase());
        due("the net stays", 5, x.count(0));
        due("what is erased is not laid", NOT, x.laid());
        Texts.write(x, "net 3");
        due("and comes not back", 3, x.laid());
    }

    private static void faultOf(String text, int want) {
        RunnerNet x = new RunnerNet();
        Texts.write(x, text);
        due("fault of \"" + text + "\"", want, x.fault());
        due("text of \"" + text + "\" stays", text.length(), x.count(2));
        due("and its net", 4, x.count(0));
    }

    private static void fault() {
        promise = 4;
        faultOf("", 0);
        faultOf("   ", 3);
        faultOf("net 8", NONE);
        faultOf("  net   8  ", NONE);
        faultOf("net 8 ; way 7 0;road 1 2", NONE);
        faultOf("net 0", 4);
        faultOf("net 9", 4);
        faultOf("net 10", 4);
        faultOf("net 01", 4);
        faultOf("net", 3);
        faultOf("net ", 4);
        faultOf("net net", 4);
        faultOf("nets 3", 0);
        faultOf("ne 3", 0);
        faultOf("Net 3", 0);
        faultOf("7", 0);
        faultOf(";net 3", 0);
        faultOf("net 3;", 6);
        faultOf("net 3; ", 7);
        faultOf("net 3;;net 3", 6);
        faultOf("net 3 4", 6);
        faultOf("net 3.", 5);
        faultOf("net 3 net 3", 6);
        faultOf("road 0 3", NONE);
        faultOf("road 0 4", 7);
        faultOf("road 4 0", 5);
        faultOf("road 2 2", 7);
        faultOf("road 0", 6);
        faultOf("road 0;1", 6);
        faultOf("road 0 1 2", 9);
        faultOf("way 01", 4);
        faultOf("way a 1", 4);
        faultOf("way 0 b", 6);
        faultOf("way -1 0", 4);
        faultOf("net 2;road 0 2", 13);
        faultOf("net 8;road 0 7;net 3;way 3 0", 25);
        faultOf("road 0 7;net 8", 7);
        faultOf("net 8;road 0 8", 13);
        String fifteen = "net 4;".repeat(15);
        faultOf(fifteen + "net 5", NONE);
        faultOf(fifteen + "net 5 ;net 5", 96);
        faultOf(fifteen + "net 5;", 95);
        RunnerNet x = Texts.laid("net 2");
        Texts.write(x, "road 0 2");
        due("the n there is", 7, x.fault());
    }

    private static void laid() {
        promise = 5;
        RunnerNet x = new RunnerNet();
        due("no text", NOT, x.laid());
        Texts.write(x, "road 0 1;way 1 2;way 1 0");
        due("roads alone", 4, x.laid());
        due("both ways, and a way over it", set(0, 1), x.steps(0));
        due("a way more", set(0, 1, 2), x.steps(1));
        due("a way is of one way", set(2), x.steps(2));
        due("the text is empty", 0, x.count(2));
        due("and cannot be laid again", NOT, x.laid());
        Texts.write(x, "road 2 1");
        due("a road over a way", 4, x.laid());
        due("goes both ways", set(1, 2), x.steps(2));
        x.play(1, 0, 1, 3);
        Texts.write(x, "net 6;road 5 4;net 9");
        due("a fault", NOT, x.laid());
        due("nothing changes", 4, x.count(0));
        due("the text stays", 20, x.count(2));
        due("the play stays", 0, x.now(0));
        x.erase();
        Texts.write(x, "way 0 3;net 6;road 5 4");
        due("lines in their order", 6, x.laid());
        due("net takes all roads away", set(0), x.steps(0));
        due("and those behind it stay", set(4, 5), x.steps(4));
        due("the play is none", NOT, x.now(0));
        Texts.write(x, "net 1");
        due("fewer places", 1, x.laid());
        due("the others are unknown", UNKNOWN, x.steps(1));
        Texts.write(x, "net 8");
        due("more places", 8, x.laid());
        due("without roads", 0, x.count(1));
        x.play(1, 0, 1, 3);
        Texts.write(x, "net 8");
        due("the same again", 8, x.laid());
        due("ends a play, too", NOT, x.now(1));
    }

    private static void road() {
        promise = 6;
        RunnerNet x = new RunnerNet();
        due("one way", 1, x.road(0, 1, false, true));
        due("there", set(0, 1), x.steps(0));
        due("not back", set(1), x.steps(1));
        due("both ways over it", 1, x.road(1, 0, true, true));
        due("back", set(0, 1), x.steps(1));
        due("one way no more", 0, x.road(0, 1, false, false));
        due("gone", set(0), x.steps(0));
        due("the other way stays", set(0, 1), x.steps(1));
        due("both ways no more", 0, x.road(0, 1, true, false));
        due("none back", set(1), x.steps(1));
        due("none there to be taken", 0, x.road(2, 3, true, false));
        due("one and itself", UNKNOWN, x.road(2, 2, true, true));
        due("one and itself no more", UNKNOWN, x.road(2, 2, true, false));
        due("itself is still a step", set(2), x.steps(2));
        due("no such place", UNKNOWN, x.road(4, 0, true, true));
        due("no such other place", UNKNOWN, x.road(0, 4, true, true));
        due("below", UNKNOWN, x.road(-1, 0, true, true));
        x.play(1, 0, 1, 3);
        due("refused", UNKNOWN, x.road(0, 9, true, true));
        due("the play stays", 3, x.now(1));
        due("a change that is none", 0, x.road(2, 3, true, false));
        due("ends the play", NOT, x.now(1));
    }

    private static void steps() {
        promise = 7;
        RunnerNet x = Texts.laid("net 8;road 0 7;way 3 5;way 3 6");
        due("both ways", set(0, 7), x.steps(0));
        due("back", set(0, 7), x.steps(7));
        due("ways", set(3, 5, 6), x.steps(3));
        due("end of a way", set(5), x.steps(5));
        due("above", UNKNOWN, x.steps(8));
        due("below", UNKNOWN, x.steps(-1));
        due("far above", UNKNOWN, x.steps(Integer.MAX_VALUE));
    }

    private static void far() {
        promise = 8;
        RunnerNet x = Texts.laid("net 8;way 0 1;way 1 2;way 2 3;way 3 4;way 4 5;way 5 6;way 6 7;way 7 0");
        due("itself", 0, x.far(3, 3));
        due("one step", 1, x.far(7, 0));
        due("all the way round", 7, x.far(0, 7));
        x.road(7, 0, false, false);
        due("none", NONE, x.far(7, 0));
        x.road(0, 6, false, true);
        due("the shorter way", 2, x.far(0, 7));
        due("above", UNKNOWN, x.far(0, 8));
        due("below", UNKNOWN, x.far(-1, 0));
        due("both", UNKNOWN, x.far(9, 9));
    }

    private static void refusesStands(RunnerNet x, java.util.function.ToIntFunction<int[]> call) {
        due("k 0", OUTSIDE, call.applyAsInt(new int[] {0, 0, 1, 0}));
        due("k 4", OUTSIDE, call.applyAsInt(new int[] {4, 0, 1, 0}));
        due("s 0", OUTSIDE, call.applyAsInt(new int[] {1, 0, 0, 0}));
        due("s 4", OUTSIDE, call.applyAsInt(new int[] {1, 0, 4, 0}));
        due("k ahead of a place", OUTSIDE, call.applyAsInt(new int[] {-1, 15, 1, 15}));
        due("s ahead of a place", OUTSIDE, call.applyAsInt(new int[] {1, 15, -1, 15}));
        due("a hunter's place", UNKNOWN, call.applyAsInt(new int[] {1, x.count(0), 1, 0}));
        due("the second one's", UNKNOWN, call.applyAsInt(new int[] {2, at(0, 15), 1, 0}));
        due("the third one's", UNKNOWN, call.applyAsInt(new int[] {3, at(0, 0, x.count(0)), 1, 0}));
        due("hunters -1", UNKNOWN, call.applyAsInt(new int[] {1, -1, 1, 0}));
    }

    private static void rounds() {
        promise = 9;
        RunnerNet x = Texts.laid(PATH_5);
        due("caught at the beginning", 0, x.rounds(1, 2, 1, 2));
        due("beside", 1, x.rounds(1, 1, 1, 0));
        due("to the end", 4, x.rounds(1, 0, 1, 4));
        due("driven to the end", 4, x.rounds(1, 0, 1, 2));
        due("faster ones cannot pass", 4, x.rounds(1, 0, 3, 2));
        due("bits that do not matter", 4, x.rounds(1, 0x7770, 1, 4));
        due("negative bits that do not matter", 4, x.rounds(1, -16, 1, 4));
        due("from both ends", 2, x.rounds(2, at(4, 0), 1, 2));
        due("three", 1, x.rounds(3, at(4, 0, 2), 3, 3));
        refusesStands(x, a -> x.rounds(a[0], a[1], a[2], a[3]));
        due("place above", UNKNOWN, x.rounds(1, 0, 1, 5));
        due("place below", UNKNOWN, x.rounds(1, 0, 1, -1));
        RunnerNet ring = Texts.laid(RING_4);
        due("without end", NONE, ring.rounds(1, 0, 1, 2));
        due("but not from beside", 1, ring.rounds(1, 0, 1, 1));
        due("two", 1, ring.rounds(2, at(0, 2), 1, 1));
        due("two at one place", 2, ring.rounds(2, at(0, 0), 1, 2));
        due("a fast one runs round", NONE, Texts.laid(RING_5).rounds(1, 0, 2, 2));
        RunnerNet way = Texts.laid(ONE_WAY_3);
        due("by a way", 1, way.rounds(1, 0, 1, 1));
        due("against it", NONE, way.rounds(1, 0, 1, 2));
    }

    private static void worth() {
        promise = 10;
        RunnerNet x = Texts.laid(PATH_5);
        due("middle", 2, x.worth(1, 2, 1));
        due("end", 4, x.worth(1, 4, 1));
        due("any order", 1, x.worth(2, at(3, 1), 1));
        due("the other order", 1, x.worth(2, at(1, 3), 1));
        due("three in any order", 1, x.worth(3, at(4, 0, 2), 2));
        due("k 0", OUTSIDE, x.worth(0, 0, 1));
        due("k 4", OUTSIDE, x.worth(4, 0, 1));
        due("s 0", OUTSIDE, x.worth(1, 0, 0));
        due("s 4, ahead of a place", OUTSIDE, x.worth(1, 9, 4));
        due("a place", UNKNOWN, x.worth(1, 5, 1));
        due("the second place", UNKNOWN, x.worth(2, at(0, 5), 1));
        due("none for some", NONE, Texts.laid(RING_4).worth(1, 0, 1));
        due("all at the beginning", 0, Texts.laid("net 2").worth(2, at(1, 0), 1));
    }

    private static void best() {
        promise = 11;
        RunnerNet x = Texts.laid(PATH_5);
        due("middle", 2, x.best(1, 1, 0));
        due("its worth", 2, x.best(1, 1, 1));
        due("two: 0 and 3 see all, 0 and 2 do not", 3, x.best(2, 1, 0));
        due("in one round", 1, x.best(2, 1, 1));
        due("three: 0, 0 and 3", 3, x.best(3, 1, 0));
        RunnerNet ring = Texts.laid(RING_5);
        due("none", NONE, ring.best(1, 1, 0));
        due("no worth", NONE, ring.best(1, 1, 1));
        due("two, the least of several", 2, ring.best(2, 3, 0));
        due("k 0", OUTSIDE, ring.best(0, 1, 0));
        due("k 4", OUTSIDE, ring.best(4, 1, 0));
        due("s 0", OUTSIDE, ring.best(1, 0, 0));
        due("s 4", OUTSIDE, ring.best(1, 4, 0));
        due("what -1", OUTSIDE, ring.best(1, 1, -1));
        due("what 2", OUTSIDE, ring.best(1, 1, 2));
        RunnerNet bare = Texts.laid("net 3");
        due("on all places", 8 + 2, bare.best(3, 1, 0));
        due("worth nothing", 0, bare.best(3, 1, 1));
    }

    private static void fewest() {
        promise = 12;
        due("path", 1, Texts.laid(PATH_5).fewest(3));
        due("ring", 2, Texts.laid(RING_4).fewest(1));
        due("three bare places", 3, Texts.laid("net 3").fewest(1));
        RunnerNet x = new RunnerNet();
        due("four bare places", NONE, x.fewest(1));
        due("s 0", OUTSIDE, x.fewest(0));
        due("s 4", OUTSIDE, x.fewest(4));
        x.road(0, 1, true, true);
        due("one road more", 3, x.fewest(1));
    }

    private static void escapes() {
        promise = 13;
        RunnerNet x = new RunnerNet();
        due("one on bare places", 4 * 3, x.escapes(1, 1));
        due("two on bare places", 6 * 2 + 4 * 3, x.escapes(2, 2));
        due("three on bare places", 4 + 12 * 2 + 4 * 3, x.escapes(3, 3));
        due("path", 0, Texts.laid(PATH_5).escapes(1, 3));
        due("ring of four", 4, Texts.laid(RING_4).escapes(1, 1));
        due("ring of five", 10, Texts.laid(RING_5).escapes(1, 1));
        due("one way of three", 3, Texts.laid(ONE_WAY_3).escapes(1, 1));
        due("k 0", OUTSIDE, x.escapes(0, 1));
        due("k 4", OUTSIDE, x.escapes(4, 1));
        due("s 0", OUTSIDE, x.escapes(1, 0));
        due("s 4", OUTSIDE, x.escapes(1, 4));
    }

    private static void hunt() {
        promise = 14;
        RunnerNet x = Texts.laid(PATH_5);
        due("nearer", 1, x.hunt(1, 0, 1, 4));
        due("catches", 4, x.hunt(1, 3, 1, 4));
        due("caught", NOT, x.hunt(1, 3, 1, 3));
        due("caught by the second", NOT, x.hunt(2, at(0, 3), 1, 3));
        refusesStands(x, a -> x.hunt(a[0], a[1], a[2], a[3]));
        due("place above", UNKNOWN, x.hunt(1, 0, 1, 5));
        due("unknown ahead of caught", UNKNOWN, x.hunt(1, 5, 1, 5));
        RunnerNet ring = Texts.laid(RING_5);
        due("stays", 0, ring.hunt(1, 0, 1, 2));
        due("catches, least setting", 2, ring.hunt(2, at(3, 1), 1, 0));
        RunnerNet bare = new RunnerNet();
        due("stay, as a setting", 2 * 8 + 3, bare.hunt(2, at(3, 2), 1, 0));
        due("three stay", (8 + 2) * 8 + 3, bare.hunt(3, at(3, 1, 2), 1, 0));
    }

    private static void flee() {
        promise = 15;
        RunnerNet x = Texts.laid(PATH_5);
        due("least of several", 3, x.flee(1, 1, 1, 4));
        due("not through a hunter", 0, x.flee(1, 2, 3, 1));
        due("stays in the corner", 4, x.flee(1, 3, 3, 4));
        due("caught", NOT, x.flee(1, 3, 1, 3));
        due("caught by the second", NOT, x.flee(2, at(1, 3), 1, 3));
        refusesStands(x, a -> x.flee(a[0], a[1], a[2], a[3]));
        due("place above", UNKNOWN, x.flee(1, 0, 1, 5));
        due("without end is most", 2, Texts.laid(RING_4).flee(1, 0, 1, 2));
        RunnerNet ring = Texts.laid("net 6;road 0 1;road 1 2;road 2 3;road 3 4;road 4 5;road 5 0");
        due("slow", 2, ring.flee(1, 0, 1, 1));
        due("no way past two", 1, ring.flee(2, at(0, 2), 3, 1));
        due("by a way", 2, Texts.laid(ONE_WAY_3).flee(1, 0, 1, 1));
    }

    private static void play() {
        promise = 16;
        RunnerNet x = Texts.laid(PATH_4);
        due("begins", 1, x.play(2, at(3, 2), 1, 0));
        due("rising", 2 * 8 + 3, x.now(0));
        due("turn", 0, x.turn(at(2, 3), 0));
        due("one round", 1, x.now(2));
        refusesStands(x, a -> x.play(a[0], a[1], a[2], a[3]));
        due("place above", UNKNOWN, x.play(1, 0, 1, 4));
        due("place below", UNKNOWN, x.play(1, 0, 1, -1));
        due("the old one stays", 1, x.now(2));
        due("another one", 1, x.play(1, 1, 3, 1));
        due("no rounds", 0, x.now(2));
        due("caught at the beginning", 1, x.now(3));
    }

    private static void turn() {
        promise = 17;
        RunnerNet x = Texts.laid(PATH_5);
        due("no play", NOT, x.turn(-1, -1));
        due("no play, ahead of all", NOT, x.turn(15, 15));
        x.play(1, 2, 1, 2);
        due("caught already", NOT, x.turn(-1, -1));
        due("caught already, ahead of all", NOT, x.turn(15, 15));
        x.play(1, 0, 1, 2);
        due("hunter's place", UNKNOWN, x.turn(5, -1));
        due("place above", UNKNOWN, x.turn(1, 5));
        due("place below", UNKNOWN, x.turn(1, -2));
        due("unknown ahead of not", UNKNOWN, x.turn(3, 5));
        due("too far for a hunter", NOT, x.turn(2, -1));
        due("too far for the other", NOT, x.turn(1, 4));
        due("to a hunter", NOT, x.turn(1, 1));
        due("nothing changed", 0, x.now(0) + x.now(2));
        due("as told", 0, x.turn(1, 3));
        due("where the hunter is", 1, x.now(0));
        due("where it is", 3, x.now(1));
        due("by best: 2 and 3 or 4", 0, x.turn(-1, -1));
        due("best hunter", 2, x.now(0));
        due("best flight", 4, x.now(1));
        due("bits that do not matter", 0, x.turn(0x73, -1));
        due("told wrong, though caught", UNKNOWN, x.turn(4, 7));
        due("caught, and place does not matter", 1, x.turn(4, 0));
        due("it stays where it was", 4, x.now(1));
        due("rounds", 4, x.now(2));
        due("caught", 1, x.now(3));
        due("no more turns", NOT, x.turn(4, 4));
        due("rounds stay", 4, x.now(2));
        x.play(2, at(3, 1), 1, 4);
        due("in the order of the setting", NOT, x.turn(at(3, 1), -1));
        due("the first goes back", 0, x.turn(at(0, 3), -1));
        due("setting", 3, x.now(0));
        RunnerNet ring = Texts.laid(RING_3);
        ring.play(2, at(0, 1), 1, 2);
        due("two change places, and it stays", 0, ring.turn(at(1, 0), -1));
        due("a rising setting", 1, ring.now(0));
        RunnerNet fast = Texts.laid(RING_5);
        fast.play(1, 0, 2, 2);
        due("two roads", 0, fast.turn(0, 4));
        due("not through the hunter", NOT, fast.turn(0, 1));
        due("as told, the hunter staying", 0, fast.turn(0, 3));
        due("hunters stay, without end", 0, fast.turn(-1, 3));
        due("where they were", 0, fast.now(0));
    }

    private static void now() {
        promise = 18;
        RunnerNet x = Texts.laid(PATH_4);
        due("what 4, ahead of not", OUTSIDE, x.now(4));
        due("what -1", OUTSIDE, x.now(-1));
        for (int what = 0; what < 4; what++) {
            due("no play", NOT, x.now(what));
        }
        x.play(3, at(3, 0, 2), 2, 1);
        due("setting", 2 * 8 + 3, x.now(0));
        due("place", 1, x.now(1));
        due("rounds", 0, x.now(2));
        due("caught", 0, x.now(3));
        due("what 4", OUTSIDE, x.now(4));
        due("turn", 1, x.turn(at(0, 1, 3), -1));
        due("setting behind", 8 + 3, x.now(0));
        due("rounds behind", 1, x.now(2));
        due("caught behind", 1, x.now(3));
    }

    private static void spread() {
        promise = 19;
        RunnerNet x = Texts.laid("net 3;way 0 1;way 1 2");
        due("by a way", set(0, 1), x.spread(1, 2, set(0)));
        due("found", 0, x.spread(1, 0, set(0)));
        due("two", set(1), x.spread(2, at(2, 0), set(0, 1)));
        due("nowhere", 0, x.spread(1, 0, 0));
        due("all", set(1, 2), x.spread(1, 0, set(0, 1, 2)));
        due("k 0, ahead", OUTSIDE, x.spread(0, 9, 0));
        due("k 3", OUTSIDE, x.spread(3, 0, 0));
        due("bits, ahead", OUTSIDE, x.spread(1, 9, 8));
        due("bits below", OUTSIDE, x.spread(1, 0, -1));
        due("place", UNKNOWN, x.spread(1, 3, 1));
        due("second place", UNKNOWN, x.spread(2, at(0, 3), 1));
        due("bits of hunters that do not matter", set(0, 1), x.spread(1, at(2, 9), set(0)));
    }

    private static void rowOf(String net, int k, int hunters, int... row) {
        RunnerNet x = Texts.laid(net);
        due("steps of " + net, row.length - 1, x.clear(k, hunters, -1));
        for (int i = 0; i < row.length; i++) {
            due("setting " + i + " of " + net, row[i], x.clear(k, hunters, i));
        }
        due("one more of " + net, NONE, x.clear(k, hunters, row.length));
        due("far more of " + net, NONE, x.clear(k, hunters, Integer.MAX_VALUE));
    }

    private static void clear() {
        promise = 20;
        rowOf("net 1", 1, 0, 0);
        rowOf("net 2", 2, at(1, 0), 1);
        rowOf(PATH_3, 1, 0, 0, 1, 2);
        rowOf(PATH_3, 1, 1, 1, 0, 1, 2);
        rowOf(PATH_3, 1, 2, 2, 1, 0);
        rowOf(RING_3, 2, at(1, 0), 1, 2);
        rowOf(PATH_4, 2, at(3, 0), 3, 8 + 2);
        RunnerNet x = Texts.laid(RING_3);
        due("it cannot be", NONE, x.clear(1, 0, -1));
        due("no first one", NONE, x.clear(1, 0, 0));
        due("k 0", OUTSIDE, x.clear(0, 0, -1));
        due("k 3", OUTSIDE, x.clear(3, 0, -1));
        due("i -2", OUTSIDE, x.clear(1, 0, -2));
        due("i ahead of a place", OUTSIDE, x.clear(1, 9, -2));
        due("place", UNKNOWN, x.clear(1, 3, -1));
        due("second place", UNKNOWN, x.clear(2, at(0, 3), 0));
        x.road(2, 0, true, false);
        due("the net of now", 2, x.clear(1, 0, -1));
    }

    private static void free() {
        promise = 21;
        RunnerNet x = Texts.laid(PATH_3);
        due("one", 0, x.free(1, 0));
        due("its steps", 2, x.free(1, 1));
        due("two", 1, x.free(2, 0));
        due("their steps", 1, x.free(2, 1));
        due("k 0", OUTSIDE, x.free(0, 0));
        due("k 3", OUTSIDE, x.free(3, 0));
        due("what -1", OUTSIDE, x.free(1, -1));
        due("what 2", OUTSIDE, x.free(1, 2));
        RunnerNet bare = Texts.laid("net 2");
        due("none", NONE, bare.free(1, 0));
        due("no steps", NONE, bare.free(1, 1));
        due("on both", 1, bare.free(2, 0));
        due("at once", 0, bare.free(2, 1));
        due("one from a setting on", 0, bare.clear(2, at(0, 1), -1));
        due("and at any again", 1, bare.free(2, 0));
    }

    private static void orderOf(String net, boolean seen, int hunters, int... order) {
        RunnerNet x = Texts.laid(net);
        due((seen ? "seen on " : "not seen on ") + net, hunters, x.flying(seen, -1));
        for (int i = 0; i < order.length; i++) {
            due("place " + i + " on " + net, order[i], x.flying(seen, i));
        }
        due("one more on " + net, NONE, x.flying(seen, order.length));
        due("i -2", OUTSIDE, x.flying(seen, -2));
    }

    private static void flying() {
        promise = 22;
        orderOf("net 4", true, 1, 0, 1, 2, 3);
        orderOf("net 4", false, 1, 0, 1, 2, 3);
        orderOf("road 3 0;road 3 1;road 3 2", true, 2, 0, 1, 2, 3);
        orderOf("road 3 0;road 3 1;road 3 2", false, 2, 0, 3, 1, 2);
        orderOf("way 3 0;way 3 1;way 2 3", false, 2, 0, 3, 1, 2);
        orderOf("road 0 1;road 0 2;road 0 3", true, 2, 1, 2, 0, 3);
        orderOf("net 4;road 0 1;road 0 2;road 0 3;road 1 2;road 1 3;way 2 3", true, 4, 0, 1, 2, 3);
        orderOf(RING_5, true, 3, 0, 1, 2, 3, 4);
        due("far more", NONE, new RunnerNet().flying(true, Integer.MAX_VALUE));
    }

    private static void away() {
        promise = 23;
        RunnerNet x = Texts.laid(PATH_3);
        due("left of a path", 1, x.away(-1));
        due("first", 0, x.away(0));
        due("second", 1, x.away(1));
        due("no third", NONE, x.away(2));
        due("far more", NONE, x.away(Integer.MAX_VALUE));
        due("i -2", OUTSIDE, x.away(-2));
        RunnerNet ring = Texts.laid(RING_4 + ";way 0 2");
        due("a way goes for none", 4, ring.away(-1));
        due("none first", NONE, ring.away(0));
        ring.road(2, 0, false, true);
        due("both ways do", 1, ring.away(-1));
        due("the least one first", 0, ring.away(0));
        due("then the next", 1, ring.away(1));
        due("bare places stay", 4, new RunnerNet().away(-1));
    }

    private static void least() {
        promise = 24;
        RunnerNet x = Texts.laid(RING_4);
        due("sees a ring", set(0, 1), x.least(0));
        due("touches a ring", set(0, 2), x.least(1));
        RunnerNet way = Texts.laid("net 3;way 1 0;way 2 0");
        due("ways are seen along", set(1, 2), way.least(0));
        due("and touched at an end", set(0), way.least(1));
        due("bare places", 15, new RunnerNet().least(0));
        due("no roads", 0, new RunnerNet().least(1));
        due("what -1", OUTSIDE, x.least(-1));
        due("what 2", OUTSIDE, x.least(2));
    }

    private static void safe() {
        promise = 25;
        RunnerNet x = Texts.laid(PATH_4);
        due("0 and 1 alone", 0, x.safe(set(0, 1), 0));
        due("0 and 2 alone", 1, x.safe(set(0, 2), 0));
        due("1 and 2 together", 1, x.safe(set(1, 2), 1));
        due("0 and 1 together", 0, x.safe(set(0, 1), 1));
        due("none", OUTSIDE, x.safe(0, 0));
        due("bits of no place", OUTSIDE, x.safe(16, 0));
        due("bits below", OUTSIDE, x.safe(-1, 0));
        due("mode -1", OUTSIDE, x.safe(1, -1));
        due("mode 2", OUTSIDE, x.safe(1, 2));
        RunnerNet way = Texts.laid("net 2;way 0 1");
        due("never back", 0, way.safe(set(0), 0));
        due("never back together", 0, way.safe(set(0), 1));
        due("all places", 1, way.safe(set(0, 1), 0));
        way.road(1, 0, false, true);
        due("back", 1, way.safe(set(0), 0));
        due("ring of five together", 1, Texts.laid(RING_5).safe(set(0, 2), 1));
        due("ring of five alone", 0, Texts.laid(RING_5).safe(set(0, 2), 0));
    }

    private static void guardsOf(String net, int mode, int fewest, int least, int sets) {
        RunnerNet x = Texts.laid(net);
        due("fewest on " + net, fewest, x.guards(mode, 0));
        due("least on " + net, least, x.guards(mode, 1));
        due("sets on " + net, sets, x.guards(mode, 2));
    }

    private static void guards() {
        promise = 26;
        guardsOf("net 4", 0, 4, 15, 1);
        guardsOf("net 4", 1, 4, 15, 1);
        guardsOf(PATH_4, 0, 2, set(0, 2), 4);
        guardsOf(RING_4, 0, 2, set(0, 1), 6);
        guardsOf(RING_4, 1, 2, set(0, 1), 6);
        guardsOf(RING_3, 0, 1, set(0), 3);
        guardsOf(RING_5, 0, 3, set(0, 1, 2), 10);
        guardsOf(RING_5, 1, 2, set(0, 2), 5);
        guardsOf("net 1", 0, 1, 1, 1);
        RunnerNet x = new RunnerNet();
        due("mode -1", OUTSIDE, x.guards(-1, 0));
        due("mode 2", OUTSIDE, x.guards(2, 0));
        due("what -1", OUTSIDE, x.guards(0, -1));
        due("what 3", OUTSIDE, x.guards(1, 3));
    }

    private static void answer() {
        promise = 27;
        RunnerNet x = Texts.laid(PATH_4);
        due("the safe one of two", set(1, 2), x.answer(set(0, 2), 0, 1));
        due("from a set that is not safe", set(0, 2), x.answer(set(0, 1), 0, 2));
        due("none", NONE, x.answer(set(0, 1), 0, 3));
        due("none together", NONE, x.answer(set(0, 1), 1, 3));
        due("together", set(0, 2), x.answer(set(1, 3), 1, 2));
        due("the least of several", set(0, 1), Texts.laid(RING_4).answer(set(0, 2), 0, 1));
        due("both step", set(0, 2), Texts.laid("road 0 1;road 0 2;road 0 3").answer(set(0, 1), 1, 2));
        due("place", UNKNOWN, x.answer(set(0), 0, 4));
        due("place ahead of set and mode", UNKNOWN, x.answer(0, 2, -1));
        due("no set", OUTSIDE, x.answer(0, 0, 1));
        due("bits of no place", OUTSIDE, x.answer(16, 0, 1));
        due("mode", OUTSIDE, x.answer(1, 2, 1));
        due("mode ahead of a guard there", OUTSIDE, x.answer(1, -1, 0));
        due("a guard there", NOT, x.answer(1, 1, 0));
        RunnerNet big = Texts.laid("net 8;road 0 7;road 1 6;road 2 5;road 3 4");
        due("high places", set(7, 6, 5, 4), big.answer(set(0, 6, 5, 4), 0, 7));
        due("high places together", set(0, 1, 2, 3), big.answer(set(4, 5, 6, 7), 1, 0));
    }

    private static void count() {
        promise = 28;
        RunnerNet x = Texts.laid("net 5;road 0 1;way 1 2");
        Texts.write(x, "abc");
        due("places", 5, x.count(0));
        due("pairs", 3, x.count(1));
        due("bytes", 3, x.count(2));
        due("no play", 0, x.count(3));
        x.play(1, 0, 1, 4);
        x.turn(-1, -1);
        x.turn(-1, -1);
        due("rounds", 2, x.count(3));
        x.road(0, 1, true, false);
        due("pairs less", 1, x.count(1));
        due("no play any more", 0, x.count(3));
        due("what -1", OUTSIDE, x.count(-1));
        due("what 4", OUTSIDE, x.count(4));
    }
}
