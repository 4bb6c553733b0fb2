/** Texts as the program takes them: eight bytes a call, the first lowest. */
final class Texts {
    private Texts() {
    }

    /** The first eight bytes of a text, as one number. */
    static long bytes(String text) {
        long bytes = 0;
        for (int i = Math.min(text.length(), 8) - 1; i >= 0; i--) {
            bytes = bytes << 8 | text.charAt(i) & 255;
        }
        return bytes;
    }

    /** Writes a whole text behind what is there: the last answer. */
    static int write(RunnerNet x, String text) {
        int answer = 0;
        for (int i = 0; i < text.length(); i += 8) {
            String part = text.substring(i, Math.min(i + 8, text.length()));
            answer = x.write(bytes(part), part.length());
        }
        return answer;
    }

    /** A new object with a text laid on it. */
    static RunnerNet laid(String text) {
        RunnerNet x = new RunnerNet();
        write(x, text);
        int answer = x.laid();
        if (answer < 1) {
            throw new IllegalStateException(text + " is not laid: " + answer);
        }
        return x;
    }
}
