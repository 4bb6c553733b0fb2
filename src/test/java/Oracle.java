import java.util.ArrayList;
import java.util.Arrays;
import java.util.HashMap;
import java.util.HashSet;
import java.util.List;
import java.util.Map;
import java.util.Set;
import java.util.TreeSet;

/**
 * What the document asks for, worked out by its plain words with the Java library: slow, and by
 * other ways than the program's own. Only right calls are asked for here, no refusals.
 */
final class Oracle {
    static final int ENDLESS = 1_000_000;

    final int n;
    final boolean[][] road;
    private final Map<String, Map<String, Integer>> chases = new HashMap<>();
    private final Map<String, List<Integer>> rows = new HashMap<>();
    private final Map<Boolean, int[]> orders = new HashMap<>();
    private final Map<Integer, Set<Set<Integer>>> safes = new HashMap<>();

    Oracle(int n, boolean[][] road) {
        this.n = n;
        this.road = road;
    }

    boolean goes(int a, int b) {
        return a == b || road[a][b];
    }

    int bits(int place) {
        int bits = 0;
        for (int b = 0; b < n; b++) {
            bits |= goes(place, b) ? 1 << b : 0;
        }
        return bits;
    }

    int far(int from, int to) {
        int[] at = new int[n];
        Arrays.fill(at, ENDLESS);
        at[from] = 0;
        for (int again = 0; again < n; again++) {
            for (int a = 0; a < n; a++) {
                for (int b = 0; b < n; b++) {
                    if (goes(a, b)) {
                        at[b] = Math.min(at[b], at[a] + 1 - (a == b ? 1 : 0));
                    }
                }
            }
        }
        return at[to] >= ENDLESS ? -1 : at[to];
    }

    int pairs() {
        int pairs = 0;
        for (int a = 0; a < n; a++) {
            pairs += Integer.bitCount(bits(a)) - 1;
        }
        return pairs;
    }

    // ---- chases: a setting is a rising list of places

    List<List<Integer>> settings(int k) {
        List<List<Integer>> all = new ArrayList<>();
        if (k == 0) {
            all.add(new ArrayList<>());
            return all;
        }
        for (List<Integer> ahead : settings(k - 1)) {
            int from = ahead.isEmpty() ? 0 : ahead.get(ahead.size() - 1);
            for (int p = from; p < n; p++) {
                List<Integer> more = new ArrayList<>(ahead);
                more.add(p);
                all.add(more);
            }
        }
        return all;
    }

    static int number(List<Integer> setting) {
        int number = 0;
        for (int p : setting) {
            number = number * 8 + p;
        }
        return number;
    }

    static List<Integer> setting(int k, int hunters) {
        List<Integer> setting = new ArrayList<>();
        for (int i = 0; i < k; i++) {
            setting.add(hunters >> 4 * i & 15);
        }
        setting.sort(null);
        return setting;
    }

    /** All settings a step further, by their numbers. */
    List<List<Integer>> next(List<Integer> setting) {
        Map<Integer, List<Integer>> found = new java.util.TreeMap<>();
        next(setting, 0, new ArrayList<>(), found);
        return new ArrayList<>(found.values());
    }

    private void next(List<Integer> setting, int i, List<Integer> made, Map<Integer, List<Integer>> found) {
        if (i == setting.size()) {
            List<Integer> rising = new ArrayList<>(made);
            rising.sort(null);
            found.put(number(rising), rising);
            return;
        }
        for (int p = 0; p < n; p++) {
            if (goes(setting.get(i), p)) {
                made.add(p);
                next(setting, i + 1, made, found);
                made.remove(made.size() - 1);
            }
        }
    }

    Set<Integer> flights(List<Integer> hunters, int s, int place) {
        Set<Integer> found = new TreeSet<>();
        walk(hunters, s, place, found);
        return found;
    }

    private void walk(List<Integer> hunters, int s, int place, Set<Integer> found) {
        found.add(place);
        for (int p = 0; p < n && s > 0; p++) {
            if (p != place && goes(place, p) && !hunters.contains(p)) {
                walk(hunters, s - 1, p, found);
            }
        }
    }

    private static String stand(List<Integer> setting, int place) {
        return setting + "/" + place;
    }

    /** Rounds of all stands: a stand has one of value r + 1, if a step leads to r at most. */
    private Map<String, Integer> chase(int k, int s) {
        return chases.computeIfAbsent(k + "," + s, key -> solve(k, s));
    }

    private Map<String, Integer> solve(int k, int s) {
        Map<String, Integer> value = new HashMap<>();
        Map<String, List<List<Integer>>> nexts = new HashMap<>();
        Map<String, Set<Integer>> flights = new HashMap<>();
        List<List<Integer>> all = settings(k);
        for (List<Integer> setting : all) {
            nexts.put(setting.toString(), next(setting));
            for (int p = 0; p < n; p++) {
                value.put(stand(setting, p), setting.contains(p) ? 0 : ENDLESS);
                if (!setting.contains(p)) {
                    flights.put(stand(setting, p), flights(setting, s, p));
                }
            }
        }
        boolean changed = true;
        while (changed) {
            changed = false;
            Map<String, Integer> better = new HashMap<>(value);
            for (List<Integer> setting : all) {
                for (int p = 0; p < n; p++) {
                    if (setting.contains(p)) {
                        continue;
                    }
                    int least = ENDLESS;
                    for (List<Integer> to : nexts.get(setting.toString())) {
                        int rest = 0;
                        if (!to.contains(p)) {
                            for (int q : flights.get(stand(to, p))) {
                                rest = Math.max(rest, value.get(stand(to, q)));
                            }
                        }
                        least = Math.min(least, rest == ENDLESS ? ENDLESS : rest + 1);
                    }
                    if (least != value.get(stand(setting, p))) {
                        better.put(stand(setting, p), least);
                        changed = true;
                    }
                }
            }
            value = better;
        }
        return value;
    }

    private int value(List<Integer> setting, int s, int place) {
        return chase(setting.size(), s).get(stand(setting, place));
    }

    private static int orNone(int value) {
        return value >= ENDLESS ? -1 : value;
    }

    int rounds(List<Integer> setting, int s, int place) {
        return orNone(value(setting, s, place));
    }

    int worth(List<Integer> setting, int s) {
        int most = 0;
        for (int p = 0; p < n; p++) {
            most = Math.max(most, value(setting, s, p));
        }
        return orNone(most);
    }

    int best(int k, int s, int what) {
        int best = -1;
        int least = ENDLESS;
        for (List<Integer> setting : settings(k)) {
            int worth = worth(setting, s);
            if (worth >= 0 && worth < least) {
                least = worth;
                best = number(setting);
            }
        }
        return best == -1 ? -1 : what == 0 ? best : least;
    }

    int fewest(int s) {
        for (int k = 1; k <= 3; k++) {
            if (best(k, s, 0) != -1) {
                return k;
            }
        }
        return -1;
    }

    int escapes(int k, int s) {
        int stands = 0;
        for (int value : chase(k, s).values()) {
            stands += value == ENDLESS ? 1 : 0;
        }
        return stands;
    }

    List<Integer> hunt(List<Integer> setting, int s, int place) {
        List<Integer> best = setting;
        int least = ENDLESS;
        for (List<Integer> to : next(setting)) {
            int rest = 0;
            if (!to.contains(place)) {
                for (int q : flights(to, s, place)) {
                    rest = Math.max(rest, value(to, s, q));
                }
            }
            if (rest < least) {
                least = rest;
                best = to;
            }
        }
        return best;
    }

    int flee(List<Integer> setting, int s, int place) {
        int best = -1;
        int most = -1;
        for (int q : flights(setting, s, place)) {
            if (value(setting, s, q) > most) {
                most = value(setting, s, q);
                best = q;
            }
        }
        return best;
    }

    // ---- unseen ones

    int spread(List<Integer> hunters, int set) {
        int found = 0;
        for (int a = 0; a < n; a++) {
            for (int b = 0; b < n; b++) {
                boolean was = (set >> a & 1) != 0 && !hunters.contains(a);
                if (was && goes(a, b) && !hunters.contains(b)) {
                    found |= 1 << b;
                }
            }
        }
        return found;
    }

    private int begin(List<Integer> setting) {
        int set = (1 << n) - 1;
        for (int p : setting) {
            set &= ~(1 << p);
        }
        return set;
    }

    /** The row of clear, as numbers, or null: the steps still needed by each stand, then the first row. */
    List<Integer> clear(List<Integer> first) {
        String key = first.toString();
        if (!rows.containsKey(key)) {
            rows.put(key, clearRow(first));
        }
        return rows.get(key);
    }

    private List<Integer> clearRow(List<Integer> first) {
        Map<String, Integer> needed = needed(first);
        String key = stand(first, begin(first));
        if (needed.get(key) == ENDLESS) {
            return null;
        }
        List<Integer> row = new ArrayList<>();
        List<Integer> setting = first;
        int set = begin(first);
        row.add(number(setting));
        while (set != 0) {
            int left = needed.get(stand(setting, set));
            for (List<Integer> to : next(setting)) {
                int then = spread(to, set);
                if (needed.get(stand(to, then)) == left - 1) {
                    setting = to;
                    set = then;
                    break;
                }
            }
            row.add(number(setting));
        }
        return row;
    }

    private Map<String, Integer> needed(List<Integer> first) {
        Map<String, Integer> needed = new HashMap<>();
        Map<String, Set<String>> after = new HashMap<>();
        List<List<Integer>> settings = new ArrayList<>();
        List<Integer> sets = new ArrayList<>();
        settings.add(first);
        sets.add(begin(first));
        needed.put(stand(first, begin(first)), begin(first) == 0 ? 0 : ENDLESS);
        for (int at = 0; at < settings.size(); at++) {
            Set<String> then = new HashSet<>();
            for (List<Integer> to : next(settings.get(at))) {
                int set = spread(to, sets.get(at));
                String key = stand(to, set);
                then.add(key);
                if (!needed.containsKey(key)) {
                    needed.put(key, set == 0 ? 0 : ENDLESS);
                    settings.add(to);
                    sets.add(set);
                }
            }
            after.put(stand(settings.get(at), sets.get(at)), then);
        }
        boolean changed = true;
        while (changed) {
            changed = false;
            for (Map.Entry<String, Set<String>> entry : after.entrySet()) {
                for (String then : entry.getValue()) {
                    if (needed.get(then) + 1 < needed.get(entry.getKey())) {
                        needed.put(entry.getKey(), needed.get(then) + 1);
                        changed = true;
                    }
                }
            }
        }
        return needed;
    }

    int free(int k, int what) {
        int best = -1;
        int least = ENDLESS;
        for (List<Integer> setting : settings(k)) {
            List<Integer> row = clear(setting);
            if (row != null && row.size() - 1 < least) {
                least = row.size() - 1;
                best = number(setting);
            }
        }
        return best == -1 ? -1 : what == 0 ? best : least;
    }

    // ---- flying hunters: all orders, one after the other

    /** The least number, then the order. */
    int[] flying(boolean seen) {
        return orders.computeIfAbsent(seen, key -> {
            int[] best = new int[n + 1];
            best[0] = ENDLESS;
            order(seen, new ArrayList<>(), 0, best);
            return best;
        });
    }

    private void order(boolean seen, List<Integer> ahead, int most, int[] best) {
        if (most + 1 >= best[0]) {
            return;
        }
        if (ahead.size() == n) {
            best[0] = most + 1;
            for (int i = 0; i < n; i++) {
                best[i + 1] = ahead.get(i);
            }
            return;
        }
        for (int p = 0; p < n; p++) {
            if (!ahead.contains(p)) {
                int needs = seen ? neighbours(ahead, p) : 0;
                ahead.add(p);
                needs = seen ? needs : border(ahead);
                order(seen, ahead, Math.max(most, needs), best);
                ahead.remove(ahead.size() - 1);
            }
        }
    }

    private boolean near(int a, int b) {
        return a != b && (road[a][b] || road[b][a]);
    }

    private int border(List<Integer> ahead) {
        int count = 0;
        for (int a : ahead) {
            boolean touches = false;
            for (int b = 0; b < n; b++) {
                touches |= !ahead.contains(b) && near(a, b);
            }
            count += touches ? 1 : 0;
        }
        return count;
    }

    /** The net with each place taken away: its neighbours are joined to one another. */
    private int neighbours(List<Integer> ahead, int place) {
        boolean[][] joined = new boolean[n][n];
        for (int a = 0; a < n; a++) {
            for (int b = 0; b < n; b++) {
                joined[a][b] = near(a, b);
            }
        }
        for (int gone : ahead) {
            for (int a = 0; a < n; a++) {
                for (int b = 0; b < n; b++) {
                    if (a != b && joined[gone][a] && joined[gone][b]) {
                        joined[a][b] = true;
                    }
                }
            }
            for (int a = 0; a < n; a++) {
                joined[gone][a] = false;
                joined[a][gone] = false;
            }
        }
        int count = 0;
        for (int b = 0; b < n; b++) {
            count += joined[place][b] ? 1 : 0;
        }
        return count;
    }

    // ---- covers, guards

    List<Integer> away() {
        List<Integer> gone = new ArrayList<>();
        boolean more = true;
        while (more) {
            more = false;
            for (int p = 0; p < n && !more; p++) {
                if (!gone.contains(p) && isCovered(gone, p)) {
                    gone.add(p);
                    more = true;
                }
            }
        }
        return gone;
    }

    private boolean isCovered(List<Integer> gone, int place) {
        for (int other = 0; other < n; other++) {
            if (other == place || gone.contains(other)) {
                continue;
            }
            boolean covers = true;
            for (int q = 0; q < n; q++) {
                boolean to = !gone.contains(q) && goes(place, q) && goes(q, place);
                covers &= !to || goes(other, q) && goes(q, other);
            }
            if (covers) {
                return true;
            }
        }
        return false;
    }

    int least(int what) {
        for (int size = 0; size <= n; size++) {
            for (int set = 0; set < 1 << n; set++) {
                if (Integer.bitCount(set) == size && (what == 0 ? sees(set) : touches(set))) {
                    return set;
                }
            }
        }
        return -1;
    }

    private boolean sees(int set) {
        for (int b = 0; b < n; b++) {
            boolean seen = false;
            for (int a = 0; a < n; a++) {
                seen |= (set >> a & 1) != 0 && goes(a, b);
            }
            if (!seen) {
                return false;
            }
        }
        return true;
    }

    private boolean touches(int set) {
        for (int a = 0; a < n; a++) {
            for (int b = 0; b < n; b++) {
                if (a != b && road[a][b] && ((set >> a | set >> b) & 1) == 0) {
                    return false;
                }
            }
        }
        return true;
    }

    static Set<Integer> members(int set) {
        Set<Integer> found = new TreeSet<>();
        for (int p = 0; p < 8; p++) {
            if ((set >> p & 1) != 0) {
                found.add(p);
            }
        }
        return found;
    }

    static int bits(Set<Integer> set) {
        int bits = 0;
        for (int p : set) {
            bits |= 1 << p;
        }
        return bits;
    }

    /** All sets to which guards can go that answer a call. */
    private Set<Set<Integer>> answers(Set<Integer> set, int mode, int call) {
        Set<Set<Integer>> found = new HashSet<>();
        if (mode == 0) {
            for (int guard : set) {
                if (road[guard][call]) {
                    Set<Integer> then = new TreeSet<>(set);
                    then.remove(guard);
                    then.add(call);
                    found.add(then);
                }
            }
        } else {
            together(new ArrayList<>(set), 0, new TreeSet<>(), call, found);
        }
        return found;
    }

    private void together(List<Integer> guards, int i, Set<Integer> taken, int call, Set<Set<Integer>> found) {
        if (i == guards.size()) {
            if (taken.contains(call)) {
                found.add(new TreeSet<>(taken));
            }
            return;
        }
        for (int p = 0; p < n; p++) {
            if (goes(guards.get(i), p) && !taken.contains(p)) {
                taken.add(p);
                together(guards, i + 1, taken, call, found);
                taken.remove(p);
            }
        }
    }

    private Set<Set<Integer>> safes(int mode) {
        return safes.computeIfAbsent(mode, key -> {
            Set<Set<Integer>> safe = new HashSet<>();
            Map<String, Set<Set<Integer>>> answers = new HashMap<>();
            for (int set = 1; set < 1 << n; set++) {
                safe.add(members(set));
                for (int call = 0; call < n; call++) {
                    if ((set >> call & 1) == 0) {
                        answers.put(set + "/" + call, answers(members(set), mode, call));
                    }
                }
            }
            boolean changed = true;
            while (changed) {
                Set<Set<Integer>> still = new HashSet<>();
                for (Set<Integer> set : safe) {
                    boolean all = true;
                    for (int call = 0; call < n && all; call++) {
                        boolean one = set.contains(call);
                        if (!one) {
                            for (Set<Integer> then : answers.get(bits(set) + "/" + call)) {
                                one |= safe.contains(then);
                            }
                        }
                        all = one;
                    }
                    if (all) {
                        still.add(set);
                    }
                }
                changed = still.size() != safe.size();
                safe = still;
            }
            return safe;
        });
    }

    int safe(int set, int mode) {
        return safes(mode).contains(members(set)) ? 1 : 0;
    }

    int guards(int mode, int what) {
        for (int size = 1; size <= n; size++) {
            int least = -1;
            int count = 0;
            for (int set = (1 << n) - 1; set > 0; set--) {
                if (Integer.bitCount(set) == size && safe(set, mode) == 1) {
                    least = set;
                    count++;
                }
            }
            if (count > 0) {
                return what == 0 ? size : what == 1 ? least : count;
            }
        }
        return -1;
    }

    int answer(int set, int mode, int call) {
        int least = ENDLESS;
        for (Set<Integer> then : answers(members(set), mode, call)) {
            if (safes(mode).contains(then)) {
                least = Math.min(least, bits(then));
            }
        }
        return orNone(least);
    }
}
