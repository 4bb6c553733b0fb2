import java.util.ArrayList;
import java.util.List;

/**
 * One object as the document tells it: the text, the net and the play it has, and which calls it refuses,
 * in which order. What a net alone decides is asked of an Oracle, a new one behind each change, so that
 * nothing that was worked out for another net can be answered.
 */
final class Model {
    private static final int NONE = -1, UNKNOWN = -2, OUTSIDE = -3, NOT = -4, FULL = -5;

    private int n = 4;
    private final boolean[][] road = new boolean[8][8];
    private Oracle oracle = new Oracle(n, new boolean[8][8]);
    private String text = "";
    /** The setting of the play; null: there is no play. */
    private List<Integer> setting;
    private int speed;
    private int place;
    private int gone;

    // ---- the net

    int write(long bytes, int count) {
        if (count < 1 || count > 8) {
            return OUTSIDE;
        }
        if (text.length() + count > 160) {
            return FULL;
        }
        for (int i = 0; i < count; i++) {
            text += (char) (bytes >> 8 * i & 255);
        }
        return text.length();
    }

    int erase() {
        int had = text.length();
        text = "";
        return had;
    }

    int fault() {
        return TextTests.fault(text, n);
    }

    int laid() {
        if (fault() != NONE) {
            return NOT;
        }
        n = TextTests.lay(text, n, road);
        text = "";
        changed();
        return n;
    }

    int road(int a, int b, boolean both, boolean is) {
        if (!known(a) || !known(b) || a == b) {
            return UNKNOWN;
        }
        road[a][b] = is;
        if (both) {
            road[b][a] = is;
        }
        changed();
        return is ? 1 : 0;
    }

    private void changed() {
        boolean[][] copy = new boolean[8][];
        for (int a = 0; a < 8; a++) {
            copy[a] = road[a].clone();
        }
        oracle = new Oracle(n, copy);
        setting = null;
    }

    int steps(int of) {
        return known(of) ? oracle.bits(of) : UNKNOWN;
    }

    int far(int from, int to) {
        return known(from) && known(to) ? oracle.far(from, to) : UNKNOWN;
    }

    // ---- chases

    int rounds(int k, int hunters, int s, int from) {
        int refused = refused(k, hunters, s, from);
        return refused != 0 ? refused : oracle.rounds(Oracle.setting(k, hunters), s, from);
    }

    int worth(int k, int hunters, int s) {
        int refused = refused(k, hunters, s, 0);
        return refused != 0 ? refused : oracle.worth(Oracle.setting(k, hunters), s);
    }

    int best(int k, int s, int what) {
        return !among(k, 1, 3) || !among(s, 1, 3) || !among(what, 0, 1) ? OUTSIDE : oracle.best(k, s, what);
    }

    int fewest(int s) {
        return !among(s, 1, 3) ? OUTSIDE : oracle.fewest(s);
    }

    int escapes(int k, int s) {
        return !among(k, 1, 3) || !among(s, 1, 3) ? OUTSIDE : oracle.escapes(k, s);
    }

    int hunt(int k, int hunters, int s, int from) {
        int refused = refused(k, hunters, s, from);
        if (refused != 0) {
            return refused;
        }
        List<Integer> stand = Oracle.setting(k, hunters);
        return stand.contains(from) ? NOT : Oracle.number(oracle.hunt(stand, s, from));
    }

    int flee(int k, int hunters, int s, int from) {
        int refused = refused(k, hunters, s, from);
        if (refused != 0) {
            return refused;
        }
        List<Integer> stand = Oracle.setting(k, hunters);
        return stand.contains(from) ? NOT : oracle.flee(stand, s, from);
    }

    // ---- a play

    int play(int k, int hunters, int s, int from) {
        int refused = refused(k, hunters, s, from);
        if (refused != 0) {
            return refused;
        }
        setting = Oracle.setting(k, hunters);
        speed = s;
        place = from;
        gone = 0;
        return 1;
    }

    int turn(int hunters, int to) {
        if (setting == null || setting.contains(place)) {
            return NOT;
        }
        boolean best = hunters == -1;
        if (!best && !knownAll(setting.size(), hunters) || to != -1 && !known(to)) {
            return UNKNOWN;
        }
        List<Integer> then = best ? oracle.hunt(setting, speed, place) : Oracle.setting(setting.size(), hunters);
        for (int i = 0; i < setting.size() && !best; i++) {
            if (!oracle.goes(setting.get(i), hunters >> 4 * i & 15)) {
                return NOT;
            }
        }
        boolean caught = then.contains(place);
        if (!caught && to != -1 && !oracle.flights(then, speed, place).contains(to)) {
            return NOT;
        }
        if (!caught) {
            place = to == -1 ? oracle.flee(then, speed, place) : to;
        }
        setting = then;
        gone++;
        return caught ? 1 : 0;
    }

    int now(int what) {
        if (!among(what, 0, 3)) {
            return OUTSIDE;
        }
        if (setting == null) {
            return NOT;
        }
        int caught = setting.contains(place) ? 1 : 0;
        return what == 0 ? Oracle.number(setting) : what == 1 ? place : what == 2 ? gone : caught;
    }

    // ---- unseen ones, flying hunters

    int spread(int k, int hunters, int set) {
        if (!among(k, 1, 2) || !isSet(set)) {
            return OUTSIDE;
        }
        return knownAll(k, hunters) ? oracle.spread(Oracle.setting(k, hunters), set) : UNKNOWN;
    }

    int clear(int k, int hunters, int i) {
        if (!among(k, 1, 2) || i < -1) {
            return OUTSIDE;
        }
        if (!knownAll(k, hunters)) {
            return UNKNOWN;
        }
        List<Integer> row = oracle.clear(Oracle.setting(k, hunters));
        if (row == null || i >= row.size()) {
            return NONE;
        }
        return i == -1 ? row.size() - 1 : row.get(i);
    }

    int free(int k, int what) {
        return !among(k, 1, 2) || !among(what, 0, 1) ? OUTSIDE : oracle.free(k, what);
    }

    int flying(boolean seen, int i) {
        return i < -1 ? OUTSIDE : i >= n ? NONE : oracle.flying(seen)[i + 1];
    }

    // ---- covers, guards

    int away(int i) {
        if (i < -1) {
            return OUTSIDE;
        }
        List<Integer> taken = oracle.away();
        return i == -1 ? n - taken.size() : i < taken.size() ? taken.get(i) : NONE;
    }

    int least(int what) {
        return among(what, 0, 1) ? oracle.least(what) : OUTSIDE;
    }

    int safe(int set, int mode) {
        return set == 0 || !isSet(set) || !among(mode, 0, 1) ? OUTSIDE : oracle.safe(set, mode);
    }

    int guards(int mode, int what) {
        return !among(mode, 0, 1) || !among(what, 0, 2) ? OUTSIDE : oracle.guards(mode, what);
    }

    int answer(int set, int mode, int call) {
        if (!known(call)) {
            return UNKNOWN;
        }
        if (set == 0 || !isSet(set) || !among(mode, 0, 1)) {
            return OUTSIDE;
        }
        return (set >> call & 1) != 0 ? NOT : oracle.answer(set, mode, call);
    }

    int count(int what) {
        if (!among(what, 0, 3)) {
            return OUTSIDE;
        }
        int rounds = setting == null ? 0 : gone;
        return what == 0 ? n : what == 1 ? oracle.pairs() : what == 2 ? text.length() : rounds;
    }

    // ---- refusals

    private static boolean among(int number, int least, int most) {
        return number >= least && number <= most;
    }

    private boolean known(int of) {
        return among(of, 0, n - 1);
    }

    private boolean knownAll(int k, int hunters) {
        List<Integer> places = new ArrayList<>(Oracle.setting(k, hunters));
        return places.stream().allMatch(this::known);
    }

    private boolean isSet(int set) {
        return among(set, 0, (1 << n) - 1);
    }

    private int refused(int k, int hunters, int s, int from) {
        if (!among(k, 1, 3) || !among(s, 1, 3)) {
            return OUTSIDE;
        }
        return knownAll(k, hunters) && known(from) ? 0 : UNKNOWN;
    }
}
