import java.util.Random;

/**
 * Runs of 512 calls of all kinds on one object, right and wrong ones mixed, while the net, the text and
 * the play change: every answer against that of a Model.
 */
public final class RunTests {
    private static final int CALLS = 512;
    private static final Check CHECK = new Check("RunTests");
    private static final Random RANDOM = new Random(28);

    private final RunnerNet x = new RunnerNet();
    private final Model model = new Model();
    private final int run;
    private int call;
    /** What is left to be written of a text. */
    private String more = "";
    /** How many hunters the last play began with. */
    private int playing = 1;

    private RunTests(int run) {
        this.run = run;
    }

    public static void main(String[] args) {
        int runs = args.length > 0 ? Integer.parseInt(args[0]) : 60;
        for (int run = 0; run < runs; run++) {
            RunTests test = new RunTests(run);
            while (test.call < CALLS) {
                test.one();
            }
        }
        CHECK.end();
    }

    private void due(String told, int want, int got) {
        call++;
        CHECK.due("run " + run + ", call " + call + ": " + told, want, got);
    }

    private static boolean seldom(int of) {
        return RANDOM.nextInt(of) == 0;
    }

    /** A number from least to most, or now and then one beside them, or any at all. */
    private static int number(int least, int most) {
        if (seldom(40)) {
            return seldom(2) ? least - 1 : most + 1;
        }
        return seldom(200) ? RANDOM.nextInt() : least + RANDOM.nextInt(most - least + 1);
    }

    private int place() {
        return number(0, model.count(0) - 1);
    }

    /** Three hunters, though fewer may be asked for. */
    private int hunters() {
        return seldom(200) ? RANDOM.nextInt() : place() & 15 | (place() & 15) << 4 | (place() & 15) << 8;
    }

    private int set(int least) {
        return number(least, (1 << model.count(0)) - 1);
    }

    /** The oracle is slow with three hunters on many places. */
    private int k() {
        return number(1, model.count(0) > 6 ? 2 : 3);
    }

    private void one() {
        int kind = RANDOM.nextInt(100);
        if (kind < 15) {
            ofText();
        } else if (kind < 18) {
            road();
        } else if (kind < 45) {
            ofPlay();
        } else if (kind < 65) {
            ofChase();
        } else if (kind < 85) {
            ofSets();
        } else {
            ofNet();
        }
    }

    private void road() {
        int a = place();
        int b = place();
        boolean both = RANDOM.nextBoolean();
        boolean is = !seldom(3);
        due("road " + a + " " + b + " " + both + " " + is, model.road(a, b, both, is), x.road(a, b, both, is));
    }

    private void ofText() {
        boolean whole = more.isEmpty();
        boolean empty = model.count(2) == 0;
        if (whole && !empty && !seldom(4)) {
            due("laid", model.laid(), x.laid());
        } else if (whole && !empty && !seldom(3) || seldom(40)) {
            due("erase", model.erase(), x.erase());
        } else if (seldom(6)) {
            due("fault", model.fault(), x.fault());
        } else {
            write(whole ? text() : more);
        }
    }

    private void write(String text) {
        int n = seldom(20) ? number(0, 9) : Math.min(text.length(), 1 + RANDOM.nextInt(8));
        long bytes = Texts.bytes(text);
        more = text.substring(Math.min(Math.max(n, 0), text.length()));
        due("write " + bytes + " " + n, model.write(bytes, n), x.write(bytes, n));
    }

    /** Small nets, for the most, and a fault now and then. */
    private static String text() {
        int n = seldom(12) ? 7 + RANDOM.nextInt(2) : 2 + RANDOM.nextInt(5);
        StringBuilder text = new StringBuilder(seldom(4) ? "way 0 1" : "net " + (seldom(9) ? 1 : n));
        for (int i = RANDOM.nextInt(12); i > 0; i--) {
            int a = RANDOM.nextInt(n);
            int b = seldom(60) ? a : (a + 1 + RANDOM.nextInt(n - 1)) % n;
            text.append(seldom(3) ? ";way " : ";road ").append(a).append(' ').append(b);
        }
        return text.toString();
    }

    /** Each hunter of the play by a step from where it is, for the most. */
    private int stepsOfPlay() {
        int setting = model.now(0);
        int hunters = 0;
        for (int i = 0; i < playing; i++) {
            int reached = model.steps(Math.max(setting, 0) >> 3 * (playing - 1 - i) & 7);
            int to = RANDOM.nextInt(8);
            for (int again = 0; again < 8 && (reached >> to & 1) == 0; again++) {
                to = (to + 1) % 8;
            }
            hunters |= (seldom(20) ? place() & 15 : to) << 4 * i;
        }
        return hunters;
    }

    private void ofPlay() {
        int going = model.now(3);
        if (going == RunnerNet.NOT && !seldom(4) || going == 1 && seldom(3) || seldom(30)) {
            play();
        } else if (RANDOM.nextBoolean()) {
            int hunters = RANDOM.nextBoolean() ? -1 : stepsOfPlay();
            int place = RANDOM.nextBoolean() ? -1 : place();
            due("turn " + hunters + " " + place, model.turn(hunters, place), x.turn(hunters, place));
        } else {
            int what = number(0, 3);
            due("now " + what, model.now(what), x.now(what));
        }
    }

    private void play() {
        int k = k();
        int hunters = hunters();
        int s = number(1, 3);
        int place = place();
        int began = model.play(k, hunters, s, place);
        playing = began == 1 ? k : playing;
        due("play " + k + " " + hunters + " " + s + " " + place, began, x.play(k, hunters, s, place));
    }

    private void ofChase() {
        int k = k();
        int hunters = hunters();
        int s = number(1, 3);
        int place = place();
        int what = number(0, 1);
        String told = " " + k + " " + hunters + " " + s + " " + place + " " + what;
        switch (RANDOM.nextInt(7)) {
            case 0 -> due("rounds" + told, model.rounds(k, hunters, s, place), x.rounds(k, hunters, s, place));
            case 1 -> due("worth" + told, model.worth(k, hunters, s), x.worth(k, hunters, s));
            case 2 -> due("best" + told, model.best(k, s, what), x.best(k, s, what));
            case 3 -> due("escapes" + told, model.escapes(k, s), x.escapes(k, s));
            case 4 -> due("hunt" + told, model.hunt(k, hunters, s, place), x.hunt(k, hunters, s, place));
            case 5 -> due("flee" + told, model.flee(k, hunters, s, place), x.flee(k, hunters, s, place));
            default -> {
                if (model.count(0) <= 6) {
                    due("fewest" + told, model.fewest(s), x.fewest(s));
                }
            }
        }
    }

    private void ofSets() {
        int k = number(1, 2);
        int hunters = hunters();
        int i = number(-1, 8);
        int mode = number(0, 1);
        int what = number(0, 2);
        int place = place();
        int set = set(1);
        int any = set(0);
        String told = " " + k + " " + hunters + " " + i + " " + mode + " " + what + " " + place + " " + set + " " + any;
        switch (RANDOM.nextInt(8)) {
            case 0 -> due("spread" + told, model.spread(k, hunters, any), x.spread(k, hunters, any));
            case 1 -> due("clear" + told, model.clear(k, hunters, i), x.clear(k, hunters, i));
            case 2 -> due("free" + told, model.free(k, mode), x.free(k, mode));
            case 3 -> due("least" + told, model.least(mode), x.least(mode));
            case 4 -> due("safe" + told, model.safe(set, mode), x.safe(set, mode));
            case 5 -> due("guards" + told, model.guards(mode, what), x.guards(mode, what));
            default -> due("answer" + told, model.answer(set, mode, place), x.answer(set, mode, place));
        }
    }

    private void ofNet() {
        int a = place();
        int b = place();
        int i = number(-1, 8);
        int what = number(0, 3);
        boolean seen = RANDOM.nextBoolean();
        String told = " " + a + " " + b + " " + i + " " + what + " " + seen;
        switch (RANDOM.nextInt(5)) {
            case 0 -> due("steps" + told, model.steps(a), x.steps(a));
            case 1 -> due("far" + told, model.far(a, b), x.far(a, b));
            case 2 -> due("flying" + told, model.flying(seen, i), x.flying(seen, i));
            case 3 -> due("away" + told, model.away(i), x.away(i));
            default -> due("count" + told, model.count(what), x.count(what));
        }
    }
}
