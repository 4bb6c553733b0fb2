import java.util.ArrayList;
import java.util.List;
import java.util.Random;
import java.util.regex.Matcher;
import java.util.regex.Pattern;

/** Random texts, right ones and spoilt ones: fault() and laid() against a reading of another kind. */
public final class TextTests {
    private static final Check CHECK = new Check("TextTests");
    private static final Random RANDOM = new Random(59);
    private static final Pattern TOKEN = Pattern.compile("[a-z]+|[0-9]+|[^ ]", Pattern.DOTALL);

    public static void main(String[] args) {
        for (int i = 0; i < 20000; i++) {
            String text = text();
            RunnerNet x = new RunnerNet();
            if (RANDOM.nextBoolean()) {
                Texts.write(x, "net " + (1 + RANDOM.nextInt(8)));
                x.laid();
            }
            x.road(0, 1, true, true);
            one(x, text);
        }
        CHECK.end();
    }

    private static void one(RunnerNet x, String text) {
        int n = x.count(0);
        boolean[][] road = new boolean[8][8];
        for (int a = 0; a < n; a++) {
            for (int b = 0; b < n; b++) {
                road[a][b] = a != b && (x.steps(a) >> b & 1) != 0;
            }
        }
        Texts.write(x, text);
        String told = "\"" + text + "\" on " + n;
        CHECK.due("count(2) of " + told, text.length(), x.count(2));
        int fault = fault(text, n);
        CHECK.due("fault of " + told, fault, x.fault());
        int then = fault == -1 ? lay(text, n, road) : n;
        CHECK.due("laid of " + told, fault == -1 ? then : RunnerNet.NOT, x.laid());
        CHECK.due("count(0) of " + told, then, x.count(0));
        CHECK.due("text behind " + told, fault == -1 ? 0 : text.length(), x.count(2));
        for (int a = 0; a < then; a++) {
            int bits = 1 << a;
            for (int b = 0; b < then; b++) {
                bits |= road[a][b] ? 1 << b : 0;
            }
            CHECK.due("steps " + a + " behind " + told, bits, x.steps(a));
        }
    }

    private static String text() {
        StringBuilder text = new StringBuilder();
        int lines = RANDOM.nextInt(5) == 0 ? 10 + RANDOM.nextInt(8) : 1 + RANDOM.nextInt(4);
        for (int line = 0; line < lines; line++) {
            text.append(line == 0 ? "" : ";").append(line());
        }
        int spoilt = RANDOM.nextInt(3);
        String bytes = "adeortwyn0123456789 ;;  .AZ/:`{" + (char) 0 + (char) 200 + (char) 255 + (char) 9;
        for (int i = 0; i < spoilt && text.length() > 0; i++) {
            int at = RANDOM.nextInt(text.length());
            char other = bytes.charAt(RANDOM.nextInt(bytes.length()));
            int how = RANDOM.nextInt(4);
            if (how == 0) {
                text.deleteCharAt(at);
            } else if (how == 1) {
                text.insert(at, other);
            } else if (how == 2) {
                text.setCharAt(at, other);
            } else {
                text.setLength(at);
            }
        }
        text.setLength(Math.min(text.length(), 160));
        return text.toString();
    }

    private static String line() {
        String gap = RANDOM.nextInt(6) == 0 ? "  " : " ";
        int most = RANDOM.nextInt(8) == 0 ? 10 : 4;
        int kind = RANDOM.nextInt(8);
        if (kind == 0) {
            return "net" + gap + RANDOM.nextInt(10);
        }
        int a = RANDOM.nextInt(most);
        int b = RANDOM.nextInt(8) == 0 ? a : (a + 1 + RANDOM.nextInt(3)) % Math.max(most, 4);
        return (kind < 5 ? "road" : "way") + gap + a + gap + b;
    }

    static int fault(String text, int places) {
        Matcher matcher = TOKEN.matcher(text);
        List<String> tokens = new ArrayList<>();
        List<Integer> starts = new ArrayList<>();
        while (matcher.find()) {
            tokens.add(matcher.group());
            starts.add(matcher.start());
        }
        tokens.add("");
        starts.add(text.length());
        int n = places;
        int at = 0;
        int lines = 0;
        while (true) {
            String word = tokens.get(at);
            if (!word.matches("road|way|net")) {
                return starts.get(at);
            }
            String first = tokens.get(++at);
            if (!first.matches(word.equals("net") ? "[1-8]" : "[0-7]")) {
                return starts.get(at);
            }
            int a = Integer.parseInt(first);
            if (word.equals("net")) {
                n = a;
            } else if (a >= n) {
                return starts.get(at);
            } else {
                String second = tokens.get(++at);
                if (!second.matches("[0-7]") || second.equals(first) || Integer.parseInt(second) >= n) {
                    return starts.get(at);
                }
            }
            lines++;
            String behind = tokens.get(++at);
            if (behind.isEmpty()) {
                return -1;
            }
            if (!behind.equals(";") || lines == 16) {
                return starts.get(at);
            }
            at++;
        }
    }

    /** Lays a text without fault on roads of eight places: how many places there are then. */
    static int lay(String text, int places, boolean[][] road) {
        int n = places;
        for (String line : text.split(";")) {
            String digits = line.replaceAll("[^0-9]", "");
            int a = digits.charAt(0) - '0';
            if (line.contains("net")) {
                n = a;
                for (boolean[] row : road) {
                    java.util.Arrays.fill(row, false);
                }
                continue;
            }
            int b = digits.charAt(1) - '0';
            road[a][b] = true;
            road[b][a] |= line.contains("road");
        }
        return n;
    }
}
