/** Boundary cases of promises 1 to 8: a new object, THE TEXT and the net. */
public final class EdgeNetTests {
    private static final int NONE = Edge.NONE, UNKNOWN = Edge.UNKNOWN, OUTSIDE = Edge.OUTSIDE;
    private static final int NOT = Edge.NOT, FULL = Edge.FULL;
    private static final Edge EDGE = new Edge("EdgeNetTests");
    private static final String BLANKS_8 = "        ";
    /** Sixteen lines, 143 bytes. */
    private static final String LINES_16 = "road 0 1" + ";road 0 1".repeat(15);

    public static void main(String[] args) {
        newObject();
        newObjectsChases();
        newObjectsSets();
        fiveHundredAndTwelve();
        writeNumber();
        writeBytes();
        writeFull();
        erase();
        faultAtFirst();
        faultAtEnd();
        faultAtLast();
        faultOfToken();
        faultOfNumber();
        faultOfLikePlaces();
        faultOfPlaces();
        faultOfLines();
        faultChangesNothing();
        laidPlaces();
        laidRoads();
        laidEnds();
        laidNot();
        road();
        roadNoMore();
        roadUnknown();
        roadEndsPlay();
        steps();
        far();
        EDGE.end(1, 8);
    }

    private static RunnerNet written(String text) {
        RunnerNet x = new RunnerNet();
        Texts.write(x, text);
        return x;
    }

    /** A text filled up with blanks to 160 bytes. */
    private static String filled(String text) {
        return text + " ".repeat(160 - text.length());
    }

    private static void faultOf(String text, int want) {
        faultOf(new RunnerNet(), text, want);
    }

    private static void faultOf(RunnerNet x, String text, int want) {
        Texts.write(x, text);
        EDGE.due("fault of \"" + text + "\"", want, x.fault());
    }

    // ---- promise 1

    private static void newObject() {
        EDGE.of(1, "Four PLACES, no ROADS");
        RunnerNet x = new RunnerNet();
        EDGE.due("places", 4, x.count(0));
        EDGE.due("pairs", 0, x.count(1));
        for (int p = 0; p < 4; p++) {
            EDGE.due("steps " + p, 1 << p, x.steps(p));
        }
        EDGE.due("a fifth", UNKNOWN, x.steps(4));
        EDGE.due("bytes", 0, x.count(2));
        EDGE.due("erased", 0, x.erase());
        EDGE.due("no play to be told", NOT, x.now(0));
        EDGE.due("no play to be played", NOT, x.turn(-1, -1));
        EDGE.due("no rounds", 0, x.count(3));
        EDGE.of(1, "RunnerNet()");
        RunnerNet y = new RunnerNet();
        y.road(0, 1, true, true);
        y.play(1, 0, 1, 1);
        Texts.write(y, "net 8");
        EDGE.due("another object's road", 1, x.steps(0));
        EDGE.due("another object's play", NOT, x.now(0));
        EDGE.due("another object's text", 0, x.count(2));
    }

    private static void newObjectsChases() {
        EDGE.of(1, "Four PLACES, no ROADS: the chases of a new object");
        EDGE.due("rounds", NONE, new RunnerNet().rounds(1, 0, 1, 3));
        EDGE.due("rounds, caught", 0, new RunnerNet().rounds(1, 3, 1, 3));
        EDGE.due("worth", NONE, new RunnerNet().worth(3, Nets.at(0, 1, 2), 1));
        EDGE.due("best", NONE, new RunnerNet().best(3, 3, 0));
        EDGE.due("fewest", NONE, new RunnerNet().fewest(1));
        EDGE.due("escapes", 12, new RunnerNet().escapes(1, 1));
        EDGE.due("hunt", 1, new RunnerNet().hunt(1, 1, 1, 3));
        EDGE.due("flee", 3, new RunnerNet().flee(1, 1, 1, 3));
        EDGE.due("play", 1, new RunnerNet().play(1, 3, 1, 0));
        EDGE.due("far", NONE, new RunnerNet().far(0, 3));
        EDGE.due("spread", 8, new RunnerNet().spread(1, 0, 9));
        EDGE.due("clear", NONE, new RunnerNet().clear(2, Nets.at(0, 1), -1));
        EDGE.due("free", NONE, new RunnerNet().free(2, 0));
    }

    private static void newObjectsSets() {
        EDGE.of(1, "Four PLACES, no ROADS: the orders and sets of a new object");
        EDGE.due("flying, seen", 1, new RunnerNet().flying(true, -1));
        EDGE.due("flying, not seen", 1, new RunnerNet().flying(false, -1));
        EDGE.due("flying, the last place", 3, new RunnerNet().flying(false, 3));
        EDGE.due("away", 4, new RunnerNet().away(-1));
        EDGE.due("least that sees", 15, new RunnerNet().least(0));
        EDGE.due("least that touches", 0, new RunnerNet().least(1));
        for (int mode = 0; mode < 2; mode++) {
            EDGE.due("safe", 1, new RunnerNet().safe(15, mode));
            EDGE.due("not safe", 0, new RunnerNet().safe(7, mode));
            EDGE.due("guards", 4, new RunnerNet().guards(mode, 0));
            EDGE.due("least guards", 15, new RunnerNet().guards(mode, 1));
            EDGE.due("answer", NONE, new RunnerNet().answer(7, mode, 3));
        }
    }

    private static void fiveHundredAndTwelve() {
        EDGE.of(1, "at most 512 calls after it has been made");
        RunnerNet x = new RunnerNet();
        x.road(0, 1, true, true);
        x.road(1, 2, true, true);
        x.road(2, 3, true, true);
        for (int call = 4; call < 512; call += 2) {
            boolean closed = call % 4 == 0;
            x.road(3, 0, true, closed);
            EDGE.due("call " + (call + 1), closed ? 2 : 1, x.fewest(1));
        }
        EDGE.due("the 512th call", 1, x.rounds(2, Nets.at(0, 3), 1, 1));
        RunnerNet play = new RunnerNet();
        play.play(1, 0, 1, 3);
        for (int call = 2; call < 512; call++) {
            play.turn(-1, -1);
        }
        EDGE.due("510 rounds of a play", 510, play.now(2));
        RunnerNet text = new RunnerNet();
        for (int call = 1; call < 512; call++) {
            text.write(32, 1);
        }
        EDGE.due("a text that was refused so often", 160, text.count(2));
    }

    // ---- promise 2

    private static void writeNumber() {
        EDGE.of(2, "n (1 .. 8) bytes more of THE TEXT");
        for (int n = 1; n <= 8; n++) {
            EDGE.due(n + " bytes", n, new RunnerNet().write(Texts.bytes(BLANKS_8), n));
        }
        EDGE.of(2, "OUTSIDE");
        EDGE.refused("0 bytes", OUTSIDE, x -> x.write(32, 0));
        EDGE.refused("-1 bytes", OUTSIDE, x -> x.write(32, -1));
        EDGE.refused("9 bytes", OUTSIDE, x -> x.write(32, 9));
        for (int n : Edge.WILD) {
            EDGE.refused(n + " bytes", OUTSIDE, x -> x.write(32, n));
        }
        EDGE.of(2, "how many it has");
        RunnerNet x = new RunnerNet();
        EDGE.due("the first", 1, x.write('n', 1));
        EDGE.due("the others", 5, x.write(Texts.bytes("et 3"), 4));
        EDGE.due("as count(2) says", 5, x.count(2));
    }

    private static void writeBytes() {
        EDGE.of(2, "byte i being bytes >> 8 i & 255");
        EDGE.due("the lowest is the first", 3, laidOf(Texts.bytes("net 3"), 5));
        EDGE.due("bytes above are not taken", 3, laidOf(Texts.bytes("net 3xyz"), 5));
        EDGE.due("nor is the eighth", 3, laidOf(Texts.bytes("net 3  ") | 255L << 56, 7));
        RunnerNet x = new RunnerNet();
        x.write(Texts.bytes("net 3  ") | 255L << 56, 8);
        EDGE.due("the eighth is the highest", 7, x.fault());
        x.erase();
        x.write(Texts.bytes("net 3") | 0x80L << 40, 6);
        EDGE.due("a byte of 128", 5, x.fault());
        x.erase();
        EDGE.due("bytes of 255", 8, x.write(-1L, 8));
        EDGE.due("are no blanks", 0, x.fault());
        x.erase();
        x.write(0, 8);
        EDGE.due("nor are bytes of 0", 0, x.fault());
    }

    private static int laidOf(long bytes, int n) {
        RunnerNet x = new RunnerNet();
        x.write(bytes, n);
        return x.laid();
    }

    private static RunnerNet writtenTo(int length) {
        return written("net 7" + " ".repeat(length - 5));
    }

    private static void writeFull() {
        EDGE.of(2, "a row of bytes, 160 at most");
        for (int more = 1; more <= 8; more++) {
            int n = more;
            RunnerNet x = writtenTo(160 - n);
            EDGE.due("the last " + n, 160, x.write(Texts.bytes(BLANKS_8), n));
            EDGE.due("no fault with the last " + n, NONE, x.fault());
        }
        EDGE.of(2, "FULL");
        for (int more = 1; more <= 8; more++) {
            int n = more;
            EDGE.refused(n + " where " + (n - 1) + " fit", FULL, () -> writtenTo(161 - n), x -> x.write(-1L, n));
        }
        EDGE.refused("8 at 159", FULL, () -> writtenTo(159), x -> x.write(-1L, 8));
        EDGE.refused("8 at 160", FULL, () -> writtenTo(160), x -> x.write(-1L, 8));
        EDGE.of(2, "the first of these that fits: OUTSIDE ahead of FULL");
        EDGE.refused("0 at 160", OUTSIDE, () -> writtenTo(160), x -> x.write(32, 0));
        EDGE.refused("9 at 160", OUTSIDE, () -> writtenTo(160), x -> x.write(32, 9));
        EDGE.of(2, "FULL no more");
        RunnerNet x = writtenTo(160);
        x.erase();
        EDGE.due("behind erase", 8, x.write(Texts.bytes(BLANKS_8), 8));
        RunnerNet y = writtenTo(160);
        y.laid();
        EDGE.due("behind laid", 8, y.write(Texts.bytes(BLANKS_8), 8));
    }

    // ---- promise 3

    private static void erase() {
        EDGE.of(3, "THE TEXT is empty: how many bytes it had");
        EDGE.due("none", 0, new RunnerNet().erase());
        EDGE.due("one", 1, written("x").erase());
        RunnerNet x = writtenTo(160);
        EDGE.due("all 160", 160, x.erase());
        EDGE.due("none again", 0, x.erase());
        EDGE.due("no bytes", 0, x.count(2));
        EDGE.due("the end comes at once", 0, x.fault());
        EDGE.due("nothing to lay", NOT, x.laid());
        Texts.write(x, "net");
        EDGE.due("what was behind is gone", 3, x.fault());
        RunnerNet busy = Edge.busy();
        EDGE.due("thirteen", 13, busy.erase());
        EDGE.due("the net stays", 5, busy.count(0));
        EDGE.due("its roads stay", 7, busy.count(1));
        EDGE.due("the play stays", 1, busy.now(2));
    }

    // ---- promise 4

    private static void faultAtFirst() {
        EDGE.of(4, "at the first TOKEN that cannot stand there");
        faultOf(";", 0);
        faultOf(";net 3", 0);
        faultOf("3 net", 0);
        faultOf("x", 0);
        faultOf(".", 0);
        faultOf("net net", 4);
        faultOf("road road", 5);
        faultOf("road 0 way", 7);
        faultOf("road;", 4);
        faultOf("road 0;", 6);
        faultOf("net;", 3);
        faultOf("net 3 3", 6);
        faultOf("net 3 x", 6);
        faultOf("way 0 1 2", 8);
        faultOf("way 0 1 way 1 0", 8);
        faultOf("net 3;;", 6);
        faultOf("net 3;3", 6);
        EDGE.of(4, "read to their first fault");
        faultOf("net 9;net 0", 4);
        faultOf("net 3;nets 4;.", 6);
        faultOf(".net 9", 0);
    }

    private static void faultAtEnd() {
        EDGE.of(4, "or at the end, if it comes too soon");
        faultOf("", 0);
        faultOf(" ", 1);
        faultOf(filled(""), 160);
        faultOf("net", 3);
        faultOf("net ", 4);
        faultOf("road", 4);
        faultOf("road ", 5);
        faultOf("road 0", 6);
        faultOf("road 0 ", 7);
        faultOf("way", 3);
        faultOf("way 0", 5);
        faultOf("net 3;", 6);
        faultOf("net 3; ", 7);
        faultOf("net 3;road 0", 12);
        faultOf(filled("road 0 1;".repeat(15) + "road 0"), 160);
        EDGE.of(4, "a word too short is a TOKEN, not the end");
        faultOf("n", 0);
        faultOf("ne", 0);
        faultOf("roa", 0);
        faultOf("wa", 0);
        faultOf("net 3;roa", 6);
    }

    private static void faultAtLast() {
        EDGE.of(4, "the byte with which the TOKEN begins, or the length");
        faultOf("net 9", 4);
        faultOf("net 3.", 5);
        faultOf("net 30", 4);
        faultOf("road 0 0", 7);
        faultOf("net 3;roads", 6);
        String right = filled(LINES_16);
        faultOf(right, NONE);
        faultOf(right.substring(0, 159) + ".", 159);
        faultOf(right.substring(0, 159) + "0", 159);
        faultOf("." + right.substring(1), 0);
        EDGE.of(4, "NONE");
        faultOf("net 1", NONE);
        faultOf("way 3 0", NONE);
        faultOf("road 0 3", NONE);
        faultOf("road 0 1;".repeat(15) + " ".repeat(17) + "road 0 1", NONE);
    }

    private static void faultOfToken() {
        EDGE.of(4, "a row of small letters");
        faultOf("nets 3", 0);
        faultOf("xnet 3", 0);
        faultOf("netroad 3", 0);
        faultOf("roadway 0 1", 0);
        faultOf("neta 3", 0);
        faultOf("netz 3", 0);
        for (String word : new String[] {"net", "road", "way"}) {
            for (int i = 0; i < word.length(); i++) {
                faultOf(word.substring(0, i) + "x" + word.substring(i + 1) + " 3 2", 0);
                faultOf(word.substring(0, i) + word.substring(i + 1) + " 3 2", 0);
            }
        }
        EDGE.of(4, "small letters a .. z");
        faultOf("Net 3", 0);
        faultOf("neT 3", 0);
        faultOf("NET 3", 0);
        faultOf("net`3", 3);
        faultOf("net{3", 3);
        faultOf("a", 0);
        faultOf("net 3;z", 6);
        EDGE.of(4, "a row of digits");
        faultOf("net 3x", 5);
        faultOf("net 3net 3", 5);
        faultOf("road 0 1x", 8);
        faultOf("road 0x 1", 6);
        faultOf("net /", 4);
        faultOf("net :", 4);
        faultOf("net 3/", 5);
        faultOf("net 3:", 5);
        EDGE.of(4, "any other byte");
        faultOf("net -3", 4);
        faultOf("road 0,1", 6);
        faultOf("road -1 0", 5);
        faultOf("net 3..", 5);
        EDGE.of(4, "blanks (32) between");
        faultOf("net      3", NONE);
        faultOf("   road   0   1   ;   net   3   ", NONE);
        for (char other : new char[] {0, 9, 10, 13, 31, 33, 128, 160, 255}) {
            faultOf("net" + other + "3", 3);
            faultOf(other + "net 3", 0);
            faultOf("net 3" + other, 5);
        }
        EDGE.of(4, "LINES with ; (59) between");
        faultOf("net 3;net 4", NONE);
        faultOf("net 3,net 4", 5);
        faultOf("net 3:net 4", 5);
        faultOf("net 3<net 4", 5);
        faultOf("net 3 net 4", 6);
    }

    private static void faultOfNumber() {
        EDGE.of(4, "N 1 .. 8");
        for (int n = 1; n <= 8; n++) {
            faultOf("net " + n, NONE);
        }
        faultOf("net 0", 4);
        faultOf("net 9", 4);
        EDGE.of(4, "numbers of 1 digit: or of more digits, also");
        faultOf("net 01", 4);
        faultOf("net 39", 4);
        faultOf("net 90", 4);
        faultOf("net 10", 4);
        faultOf("net 11", 4);
        faultOf("net 003", 4);
        faultOf("road 00 1", 5);
        faultOf("road 0 01", 7);
        faultOf("road 0 10", 7);
        faultOf("way 01", 4);
        faultOf("net " + "1".repeat(156), 4);
        EDGE.of(4, "A, B PLACES 0 .. 7");
        faultOf("net 8;road 0 7", NONE);
        faultOf("net 8;road 7 0", NONE);
        faultOf("net 8;road 8 0", 11);
        faultOf("net 8;road 0 8", 13);
        faultOf("net 8;way 9 0", 10);
        faultOf("net 8;way 0 9", 12);
    }

    private static void faultOfLikePlaces() {
        EDGE.of(4, "the second of two like PLACES");
        faultOf("road 0 0", 7);
        faultOf("way 3 3", 6);
        faultOf("net 8;way 7 7", 12);
        EDGE.of(4, "the second of two like PLACES: the first, if it is no PLACE");
        faultOf("road 4 4", 5);
        faultOf("way 9 9", 4);
        EDGE.of(4, "the second of two like PLACES: always, where there is one PLACE");
        faultOf("net 1;road 0 0", 13);
        faultOf("net 1;road 0 1", 13);
        faultOf("net 1;road 1 0", 11);
    }

    private static void faultOfPlaces() {
        EDGE.of(4, "not below the N of the last net LINE ahead");
        for (int n = 2; n <= 7; n++) {
            faultOf("net " + n + ";road 0 " + (n - 1), NONE);
            faultOf("net " + n + ";road 0 " + n, 13);
            faultOf("net " + n + ";way " + n + " 0", 10);
        }
        faultOf("net 8;road 0 7;net 3;road 0 2", NONE);
        faultOf("net 8;road 0 7;net 3;road 0 3", 28);
        faultOf("net 3;net 8;road 0 7", NONE);
        faultOf("road 0 4;net 8", 7);
        faultOf("net 2;road 0 1;road 0 2;net 3", 22);
        EDGE.of(4, "or below the n there is, without one");
        faultOf("road 0 3", NONE);
        faultOf("road 0 4", 7);
        faultOf("road 4 0", 5);
        for (int n = 2; n <= 8; n++) {
            faultOf(Nets.bare(n), "way 0 " + (n - 1), NONE);
            faultOf(Nets.bare(n), "way 0 " + n, 6);
            faultOf(Nets.bare(n), "way " + n + " 0", 4);
        }
        faultOf(Nets.bare(1), "way 0 0", 6);
        faultOf(Nets.bare(1), "way 0 1", 6);
    }

    private static void faultOfLines() {
        EDGE.of(4, "LINES, 16 at most");
        faultOf("net 3", NONE);
        faultOf(LINES_16, NONE);
        faultOf(LINES_16 + " ", NONE);
        faultOf(LINES_16 + ";", 143);
        faultOf(LINES_16 + ";road 0 1", 143);
        faultOf(LINES_16 + "  ;road 0 1", 145);
        faultOf(LINES_16 + ";x", 143);
        faultOf("net 4;".repeat(26), 95);
        EDGE.of(4, "LINES, 16 at most: a fault ahead of the 17th is the first");
        faultOf("road 0 1;".repeat(15) + "road 0 0;road 0 1", 142);
        faultOf("x" + LINES_16 + ";road 0 1", 0);
        faultOf(LINES_16 + " x;", 144);
    }

    private static void faultChangesNothing() {
        EDGE.of(4, "The place of the FAULT: asking changes nothing");
        EDGE.refused("no fault", NONE, RunnerNet::fault);
        EDGE.refused("a fault", 5, () -> written("road 9 0"), RunnerNet::fault);
        RunnerNet x = written("net 3;");
        EDGE.due("too soon", 6, x.fault());
        Texts.write(x, "net 2");
        EDGE.due("no more so", NONE, x.fault());
    }

    // ---- promise 5

    private static void laidPlaces() {
        EDGE.of(5, "how many PLACES");
        EDGE.due("of a text without net", 4, written("road 0 1").laid());
        EDGE.due("1", 1, written("net 1").laid());
        EDGE.due("8", 8, written("net 8").laid());
        EDGE.due("of the last net", 2, written("net 8;net 1;net 2").laid());
        EDGE.due("of 16 lines", 4, written(LINES_16).laid());
        EDGE.due("of 160 bytes", 7, writtenTo(160).laid());
        RunnerNet x = Nets.allJoined(8);
        Texts.write(x, "net 1");
        EDGE.due("fewer", 1, x.laid());
        EDGE.due("one place", 1, x.steps(0));
        EDGE.due("no second one", UNKNOWN, x.steps(1));
        EDGE.due("no pairs", 0, x.count(1));
        Texts.write(x, "net 8");
        EDGE.due("more", 8, x.laid());
        EDGE.due("the eighth", 128, x.steps(7));
    }

    private static void laidRoads() {
        EDGE.of(5, "net: there are N PLACES, no ROADS, then");
        RunnerNet x = Nets.allJoined(4);
        Texts.write(x, "net 4");
        x.laid();
        EDGE.due("no pairs, though N is n", 0, x.count(1));
        EDGE.of(5, "road: a ROAD both ways");
        x = written("road 0 3");
        x.laid();
        EDGE.due("there", 9, x.steps(0));
        EDGE.due("back", 9, x.steps(3));
        EDGE.of(5, "way: from A to B alone");
        x = written("way 3 0");
        x.laid();
        EDGE.due("there", 9, x.steps(3));
        EDGE.due("not back", 1, x.steps(0));
        EDGE.of(5, "a ROAD that is there stays as it is");
        x = written("road 0 1;way 0 1;way 1 0;road 1 0;way 2 3;way 2 3");
        x.laid();
        EDGE.due("pairs", 3, x.count(1));
        Texts.write(x, "way 0 1;way 2 3");
        x.laid();
        EDGE.due("pairs of another text", 3, x.count(1));
        EDGE.of(5, "LINES in their order");
        x = written("road 0 1;net 4;way 1 2;net 4;way 2 3");
        x.laid();
        EDGE.due("the last line's way alone", 1, x.count(1));
        EDGE.due("is there", 12, x.steps(2));
        x = written(LINES_16.substring(0, 135) + "way 3 2");
        x.laid();
        EDGE.due("the 16th line, too", 12, x.steps(3));
    }

    private static void laidEnds() {
        EDGE.of(5, "and is empty then");
        RunnerNet x = written("net 3");
        x.laid();
        EDGE.due("no bytes", 0, x.count(2));
        EDGE.due("not again", NOT, x.laid());
        EDGE.due("nothing to erase", 0, x.erase());
        Texts.write(x, "net 4;road 0 1;road 1 2;road 2 3");
        x.laid();
        Texts.write(x, "net 4;way 0 1");
        EDGE.due("a shorter text behind a longer one", 4, x.laid());
        EDGE.due("has its own lines alone", 1, x.count(1));
        Texts.write(x, "way 1 2;way 2 3;way 3 0;x");
        x.laid();
        x.erase();
        Texts.write(x, "way 1 0");
        EDGE.due("a text behind one with a fault", 4, x.laid());
        EDGE.due("has its own line alone, too", 2, x.count(1));
        EDGE.of(5, "A PLAY that was is none any more");
        x = Edge.busy();
        x.erase();
        Texts.write(x, "road 0 1");
        EDGE.due("a road that was there", 5, x.laid());
        EDGE.due("now", NOT, x.now(0));
        EDGE.due("turn", NOT, x.turn(-1, -1));
        EDGE.due("rounds", 0, x.count(3));
    }

    private static RunnerNet faulty(String text) {
        RunnerNet x = Edge.busy();
        x.erase();
        Texts.write(x, text);
        return x;
    }

    private static void laidNot() {
        EDGE.of(5, "NOT: it has a FAULT");
        EDGE.refused("no text", NOT, () -> faulty(""), RunnerNet::laid);
        EDGE.refused("at its first byte", NOT, () -> faulty(".net 3"), RunnerNet::laid);
        EDGE.refused("at its last byte", NOT, () -> faulty("net 3;road 0 1."), RunnerNet::laid);
        EDGE.refused("at its end", NOT, () -> faulty("net 3;"), RunnerNet::laid);
        EDGE.refused("at the 17th line", NOT, () -> faulty(LINES_16 + ";net 3"), RunnerNet::laid);
        EDGE.refused("at the last byte of 160", NOT, () -> faulty(filled("net 3").substring(0, 159) + "."), RunnerNet::laid);
        RunnerNet x = written("net 3;");
        x.laid();
        Texts.write(x, "net 2");
        EDGE.due("the text stays and can be ended", 2, x.laid());
    }

    // ---- promise 6

    private static void road() {
        EDGE.of(6, "whether one goes from a to b then: 1, 0");
        RunnerNet x = new RunnerNet();
        EDGE.due("none to take away", 0, x.road(0, 3, true, false));
        EDGE.due("none to take away, one way", 0, x.road(0, 3, false, false));
        EDGE.due("this way alone", 1, x.road(3, 0, false, true));
        EDGE.due("there", 9, x.steps(3));
        EDGE.due("not back", 1, x.steps(0));
        EDGE.due("back no more, where there is none", 0, x.road(0, 3, false, false));
        EDGE.due("there still", 9, x.steps(3));
        EDGE.due("both ways", 1, x.road(0, 3, true, true));
        EDGE.due("back", 9, x.steps(0));
        EDGE.of(6, "is there, or no more (the same)");
        EDGE.due("both ways again", 1, x.road(0, 3, true, true));
        EDGE.due("pairs", 2, x.count(1));
        EDGE.due("this way again", 1, x.road(0, 3, false, true));
        EDGE.due("the way back stays", 9, x.steps(3));
        EDGE.due("this way no more", 0, x.road(0, 3, false, false));
        EDGE.due("gone", 1, x.steps(0));
        EDGE.due("the way back stays", 9, x.steps(3));
        EDGE.due("this way no more, again", 0, x.road(0, 3, false, false));
        EDGE.due("both ways no more", 0, x.road(0, 3, true, false));
        EDGE.due("no pairs", 0, x.count(1));
        RunnerNet big = Nets.bare(8);
        EDGE.due("the last place", 1, big.road(7, 0, true, true));
        EDGE.due("its road", 129, big.steps(7));
    }

    /** A ring of four, asked for what it answers, and then without its road from 3 to 2. */
    private static RunnerNet opened(boolean both) {
        RunnerNet x = Nets.ring(4);
        EDGE.due("a ring's chase", NONE, x.rounds(1, 0, 1, 2));
        EDGE.due("a ring's best", NONE, x.best(1, 1, 0));
        EDGE.due("a ring's search", NONE, x.free(1, 0));
        EDGE.due("a ring's hunters not seen", 3, x.flying(false, -1));
        EDGE.due("a ring's hunters seen", 3, x.flying(true, -1));
        EDGE.due("a ring's places", 4, x.away(-1));
        EDGE.due("a ring's guards", 6, x.guards(0, 2));
        EDGE.due("a ring's guards together", 6, x.guards(1, 2));
        EDGE.due("from 3 to 2 no more", 0, x.road(3, 2, both, false));
        return x;
    }

    private static void roadNoMore() {
        EDGE.of(6, "no more: all calls answer for the net of now");
        RunnerNet x = opened(true);
        EDGE.due("rounds", 3, x.rounds(1, 3, 1, 2));
        EDGE.due("best", 0, x.best(1, 1, 0));
        EDGE.due("escapes", 0, x.escapes(1, 1));
        EDGE.due("free", 2, x.free(1, 0));
        EDGE.due("steps of free", 3, x.free(1, 1));
        EDGE.due("hunters not seen", 2, x.flying(false, -1));
        EDGE.due("hunters seen", 2, x.flying(true, -1));
        EDGE.due("places left", 1, x.away(-1));
        EDGE.due("guards", 4, x.guards(0, 2));
        EDGE.due("guards together", 4, x.guards(1, 2));
        EDGE.due("far", 3, x.far(3, 2));
        EDGE.due("the road again", 1, x.road(2, 3, true, true));
        EDGE.due("a ring again", NONE, x.best(1, 1, 0));
        RunnerNet way = opened(false);
        EDGE.due("one way still: far", 1, way.far(2, 3));
        EDGE.due("one way back", 3, way.far(3, 2));
        EDGE.due("one way still: hunters not seen", 3, way.flying(false, -1));
        EDGE.due("one way still: places left", 1, way.away(-1));
        EDGE.due("one way back no more", 0, way.road(2, 3, false, false));
        EDGE.due("none any more: hunters not seen", 2, way.flying(false, -1));
    }

    private static void roadUnknown() {
        EDGE.of(6, "UNKNOWN");
        EDGE.refused("a below", UNKNOWN, x -> x.road(-1, 0, true, true));
        EDGE.refused("b below", UNKNOWN, x -> x.road(0, -1, true, true));
        EDGE.refused("a is n", UNKNOWN, x -> x.road(5, 0, true, true));
        EDGE.refused("b is n", UNKNOWN, x -> x.road(0, 5, true, true));
        EDGE.refused("b is n, no more", UNKNOWN, x -> x.road(0, 5, false, false));
        for (int wild : Edge.WILD) {
            EDGE.refused("a " + wild, UNKNOWN, x -> x.road(wild, 1, true, false));
            EDGE.refused("b " + wild, UNKNOWN, x -> x.road(1, wild, true, false));
        }
        EDGE.due("a ninth place", UNKNOWN, Nets.bare(8).road(0, 8, true, true));
        EDGE.of(6, "UNKNOWN: also one and itself");
        for (int place = 0; place < 5; place++) {
            int p = place;
            EDGE.refused("both ways " + p, UNKNOWN, x -> x.road(p, p, true, true));
            EDGE.refused("one way no more " + p, UNKNOWN, x -> x.road(p, p, false, false));
        }
        EDGE.refused("no place and itself", UNKNOWN, x -> x.road(9, 9, true, true));
        EDGE.refused("where there is one place", UNKNOWN, () -> Nets.bare(1), x -> x.road(0, 0, true, true));
        EDGE.refused("or no other", UNKNOWN, () -> Nets.bare(1), x -> x.road(0, 1, true, true));
    }

    private static void roadEndsPlay() {
        EDGE.of(6, "A PLAY that was is none any more");
        for (int i = 0; i < 4; i++) {
            RunnerNet x = Edge.busy();
            int is = x.road(0, 1, i % 2 == 0, i < 2);
            EDGE.due("goes", i < 2 ? 1 : 0, is);
            EDGE.due("now", NOT, x.now(0));
            EDGE.due("turn", NOT, x.turn(-1, -1));
            EDGE.due("rounds", 0, x.count(3));
            EDGE.due("the text stays", 13, x.count(2));
        }
    }

    // ---- promises 7 and 8

    private static void steps() {
        EDGE.of(7, "itself, too, by bits");
        RunnerNet x = Nets.allJoined(8);
        EDGE.due("all from the first", 255, x.steps(0));
        EDGE.due("all from the last", 255, x.steps(7));
        EDGE.due("itself alone", 1, Nets.bare(1).steps(0));
        EDGE.due("itself alone, the last", 128, Nets.bare(8).steps(7));
        RunnerNet way = Nets.oneWayRing(8);
        EDGE.due("by ways", 3, way.steps(0));
        EDGE.due("from the last to the first", 129, way.steps(7));
        EDGE.of(7, "UNKNOWN");
        EDGE.due("below", UNKNOWN, x.steps(-1));
        EDGE.due("a ninth", UNKNOWN, x.steps(8));
        for (int wild : Edge.WILD) {
            EDGE.due("place " + wild, UNKNOWN, x.steps(wild));
        }
        for (int n = 1; n <= 8; n++) {
            EDGE.due("the last of " + n, 1 << n - 1, Nets.bare(n).steps(n - 1));
            EDGE.due("one more than " + n, UNKNOWN, Nets.bare(n).steps(n));
        }
    }

    private static void far() {
        EDGE.of(8, "FAR is one PLACE from another one: the fewest steps");
        RunnerNet way = Nets.oneWayRing(8);
        EDGE.due("itself", 0, way.far(7, 7));
        EDGE.due("next", 1, way.far(7, 0));
        EDGE.due("as far as can be", 7, way.far(0, 7));
        way.road(0, 7, false, true);
        EDGE.due("the fewest", 1, way.far(0, 7));
        EDGE.due("itself where there is one", 0, Nets.bare(1).far(0, 0));
        EDGE.of(8, "NONE");
        EDGE.due("no roads", NONE, Nets.bare(8).far(0, 7));
        EDGE.due("against a way", NONE, Texts.laid("net 2;way 0 1").far(1, 0));
        EDGE.due("along it", 1, Texts.laid("net 2;way 0 1").far(0, 1));
        EDGE.of(8, "UNKNOWN");
        RunnerNet x = Nets.path(5);
        EDGE.due("from below", UNKNOWN, x.far(-1, 0));
        EDGE.due("to below", UNKNOWN, x.far(0, -1));
        EDGE.due("from n", UNKNOWN, x.far(5, 0));
        EDGE.due("to n", UNKNOWN, x.far(0, 5));
        EDGE.due("n and itself", UNKNOWN, x.far(5, 5));
        for (int wild : Edge.WILD) {
            EDGE.due("from " + wild, UNKNOWN, x.far(wild, 0));
            EDGE.due("to " + wild, UNKNOWN, x.far(0, wild));
        }
    }
}
