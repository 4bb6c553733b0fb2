/** Nets that many tests ask for, and how places are told to the program. */
final class Nets {
    private Nets() {
    }

    /** So many places without roads. */
    static RunnerNet bare(int n) {
        return Texts.laid("net " + n);
    }

    static RunnerNet path(int n) {
        RunnerNet x = bare(n);
        for (int p = 0; p + 1 < n; p++) {
            x.road(p, p + 1, true, true);
        }
        return x;
    }

    static RunnerNet ring(int n) {
        RunnerNet x = path(n);
        x.road(n - 1, 0, true, true);
        return x;
    }

    /** A ring of ways of one, each place to the next. */
    static RunnerNet oneWayRing(int n) {
        RunnerNet x = bare(n);
        for (int p = 0; p < n; p++) {
            x.road(p, (p + 1) % n, false, true);
        }
        return x;
    }

    /** All places joined to the place 0, and to no other. */
    static RunnerNet star(int n) {
        RunnerNet x = bare(n);
        for (int p = 1; p < n; p++) {
            x.road(0, p, true, true);
        }
        return x;
    }

    static RunnerNet allJoined(int n) {
        RunnerNet x = bare(n);
        for (int a = 0; a < n; a++) {
            for (int b = a + 1; b < n; b++) {
                x.road(a, b, true, true);
            }
        }
        return x;
    }

    /** What a set of places is as bits. */
    static int set(int... places) {
        int bits = 0;
        for (int p : places) {
            bits |= 1 << p;
        }
        return bits;
    }

    /** Hunters told, the first in the lowest four bits. */
    static int at(int... places) {
        int hunters = 0;
        for (int i = 0; i < places.length; i++) {
            hunters |= places[i] << 4 * i;
        }
        return hunters;
    }
}
