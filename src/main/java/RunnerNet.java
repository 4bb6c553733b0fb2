import java.util.Arrays;

/**
 * Hunters on a net of places and roads and one who flees: who wins from where, in how few rounds,
 * how each moves best, how one who is not seen is driven out, and how guards answer calls for ever.
 */
public final class RunnerNet {
    public static final int NONE = -1, UNKNOWN = -2, OUTSIDE = -3, NOT = -4, FULL = -5;

    private static final int MOST_PLACES = 8;
    private static final int SETS = 256;
    private static final int FIRST_PLACES = 4;
    private static final int MOST_HUNTERS = 3;
    private static final int MOST_UNSEEN_HUNTERS = 2;
    private static final int MOST_SPEED = 3;
    private static final int ALONE = 0;
    private static final int TOGETHER = 1;

    private final Net net;
    private final Text text;
    private final Settings[] settings;
    private final Chase[] chases;
    private final Play game;
    private final Unseen unseen;
    private final Orders ordersUnseen;
    private final Orders ordersSeen;
    private final Covers covers;
    private final Guards[] watches;

    public RunnerNet() {
        net = new Net(FIRST_PLACES);
        text = new Text();
        settings = new Settings[MOST_HUNTERS];
        chases = new Chase[MOST_HUNTERS * MOST_SPEED];
        for (int k = 1; k <= MOST_HUNTERS; k++) {
            settings[k - 1] = new Settings(net, k);
            for (int s = 1; s <= MOST_SPEED; s++) {
                chases[(k - 1) * MOST_SPEED + s - 1] = new Chase(net, settings[k - 1], s);
            }
        }
        game = new Play();
        unseen = new Unseen(net, settings[0]);
        ordersUnseen = new Orders(net, false);
        ordersSeen = new Orders(net, true);
        covers = new Covers(net);
        watches = new Guards[] {new Guards(net, ALONE), new Guards(net, TOGETHER)};
    }

    // ---- the net

    public int write(long bytes, int n) {
        if (n < 1 || n > 8) {
            return OUTSIDE;
        }
        return text.append(bytes, n) ? text.length() : FULL;
    }

    public int erase() {
        int had = text.length();
        text.drop();
        return had;
    }

    public int fault() {
        return text.read(net.places());
    }

    public int laid() {
        if (text.read(net.places()) != NONE) {
            return NOT;
        }
        text.layOn(net);
        text.drop();
        game.end();
        return net.places();
    }

    public int road(int a, int b, boolean both, boolean is) {
        if (!net.known(a) || !net.known(b) || a == b) {
            return UNKNOWN;
        }
        net.set(a, b, is);
        if (both) {
            net.set(b, a, is);
        }
        net.settle();
        game.end();
        return has(net.outOf(a), b) ? 1 : 0;
    }

    public int steps(int place) {
        return net.known(place) ? net.outOf(place) : UNKNOWN;
    }

    public int far(int from, int to) {
        return net.known(from) && net.known(to) ? net.distance(from, to) : UNKNOWN;
    }

    // ---- chases

    public int rounds(int k, int hunters, int s, int place) {
        int refusal = refuseStand(k, hunters, s, place);
        if (refusal != 0) {
            return refusal;
        }
        return chase(k, s).roundsFrom(settings(k).told(hunters), place);
    }

    public int worth(int k, int hunters, int s) {
        if (!isChase(k, s)) {
            return OUTSIDE;
        }
        int setting = settings(k).told(hunters);
        return setting == NONE ? UNKNOWN : chase(k, s).mostFrom(setting);
    }

    public int best(int k, int s, int what) {
        if (!isChase(k, s) || what < 0 || what > 1) {
            return OUTSIDE;
        }
        Chase chase = chase(k, s);
        int setting = chase.bestSetting();
        return what == 0 || setting == NONE ? setting : chase.mostFrom(setting);
    }

    public int fewest(int s) {
        if (s < 1 || s > MOST_SPEED) {
            return OUTSIDE;
        }
        for (int k = 1; k <= MOST_HUNTERS; k++) {
            if (chase(k, s).bestSetting() != NONE) {
                return k;
            }
        }
        return NONE;
    }

    public int escapes(int k, int s) {
        return isChase(k, s) ? chase(k, s).countEndless() : OUTSIDE;
    }

    public int hunt(int k, int hunters, int s, int place) {
        int refusal = refuseStand(k, hunters, s, place);
        if (refusal != 0) {
            return refusal;
        }
        int setting = settings(k).told(hunters);
        return settings(k).holds(setting, place) ? NOT : chase(k, s).bestMove(setting, place);
    }

    public int flee(int k, int hunters, int s, int place) {
        int refusal = refuseStand(k, hunters, s, place);
        if (refusal != 0) {
            return refusal;
        }
        int setting = settings(k).told(hunters);
        return settings(k).holds(setting, place) ? NOT : chase(k, s).bestFlight(setting, place);
    }

    // ---- a play

    public int play(int k, int hunters, int s, int place) {
        int refusal = refuseStand(k, hunters, s, place);
        if (refusal != 0) {
            return refusal;
        }
        game.begin(k, s, settings(k).rising(settings(k).told(hunters)), place);
        return 1;
    }

    public int turn(int hunters, int place) {
        if (!game.isOn() || isCaught()) {
            return NOT;
        }
        Settings rows = settings(game.hunters());
        if (hunters != NONE && rows.told(hunters) == NONE) {
            return UNKNOWN;
        }
        if (place != NONE && !net.known(place)) {
            return UNKNOWN;
        }
        int setting = settingBehind(hunters);
        if (setting == NONE) {
            return NOT;
        }
        int flight = rows.holds(setting, game.place()) ? game.place() : placeBehind(setting, place);
        if (flight == NONE) {
            return NOT;
        }
        game.go(setting, flight);
        return isCaught() ? 1 : 0;
    }

    public int now(int what) {
        if (what < 0 || what > 3) {
            return OUTSIDE;
        }
        if (!game.isOn()) {
            return NOT;
        }
        switch (what) {
            case 0:
                return game.setting();
            case 1:
                return game.place();
            case 2:
                return game.gone();
            default:
                return isCaught() ? 1 : 0;
        }
    }

    // ---- unseen ones, flying hunters

    public int spread(int k, int hunters, int set) {
        if (k < 1 || k > MOST_UNSEEN_HUNTERS || !net.holdsAll(set)) {
            return OUTSIDE;
        }
        int setting = settings(k).told(hunters);
        return setting == NONE ? UNKNOWN : net.leftBehind(settings(k).placesOf(setting), set);
    }

    public int clear(int k, int hunters, int i) {
        if (k < 1 || k > MOST_UNSEEN_HUNTERS || i < -1) {
            return OUTSIDE;
        }
        int setting = settings(k).told(hunters);
        if (setting == NONE) {
            return UNKNOWN;
        }
        unseen.search(settings(k), settings(k).rising(setting));
        return i == -1 ? unseen.length() : unseen.settingAt(i);
    }

    public int free(int k, int what) {
        if (k < 1 || k > MOST_UNSEEN_HUNTERS || what < 0 || what > 1) {
            return OUTSIDE;
        }
        unseen.search(settings(k), NONE);
        return what == 0 ? unseen.settingAt(0) : unseen.length();
    }

    public int flying(boolean seen, int i) {
        if (i < -1) {
            return OUTSIDE;
        }
        Orders orders = seen ? ordersSeen : ordersUnseen;
        return i == -1 ? orders.hunters() : orders.placeAt(i);
    }

    // ---- covers, guards

    public int away(int i) {
        return i < -1 ? OUTSIDE : covers.takenAway(i);
    }

    public int least(int what) {
        if (what < 0 || what > 1) {
            return OUTSIDE;
        }
        return covers.leastSet(what == 0);
    }

    public int safe(int set, int mode) {
        if (!isWatch(set, mode)) {
            return OUTSIDE;
        }
        return watches[mode].holdsOut(set) ? 1 : 0;
    }

    public int guards(int mode, int what) {
        if (mode < ALONE || mode > TOGETHER || what < 0 || what > 2) {
            return OUTSIDE;
        }
        Guards watch = watches[mode];
        int least = watch.leastSet();
        switch (what) {
            case 0:
                return Integer.bitCount(least);
            case 1:
                return least;
            default:
                return watch.countSets(Integer.bitCount(least));
        }
    }

    public int answer(int set, int mode, int place) {
        if (!net.known(place)) {
            return UNKNOWN;
        }
        if (!isWatch(set, mode)) {
            return OUTSIDE;
        }
        return has(set, place) ? NOT : watches[mode].leastAnswer(set, place);
    }

    public int count(int what) {
        switch (what) {
            case 0:
                return net.places();
            case 1:
                return net.pairs();
            case 2:
                return text.length();
            case 3:
                return game.gone();
            default:
                return OUTSIDE;
        }
    }

    // ---- what several calls share

    private static boolean has(int set, int place) {
        return (set >> place & 1) != 0;
    }

    private static boolean isChase(int k, int s) {
        return k >= 1 && k <= MOST_HUNTERS && s >= 1 && s <= MOST_SPEED;
    }

    private boolean isWatch(int set, int mode) {
        return set != 0 && net.holdsAll(set) && mode >= ALONE && mode <= TOGETHER;
    }

    /** The caller has looked at k: it is 1 .. 3. */
    private Settings settings(int k) {
        return settings[Math.max(0, Math.min(k - 1, MOST_HUNTERS - 1))];
    }

    /** The caller has looked at k and s: both are 1 .. 3. The chase is worked out for the net as it is. */
    private Chase chase(int k, int s) {
        int at = (k - 1) * MOST_SPEED + s - 1;
        Chase chase = chases[Math.max(0, Math.min(at, chases.length - 1))];
        chase.solve();
        return chase;
    }

    /** 0, if the stand is as the document wants it, else the refusal. */
    private int refuseStand(int k, int hunters, int s, int place) {
        if (!isChase(k, s)) {
            return OUTSIDE;
        }
        return settings(k).told(hunters) == NONE || !net.known(place) ? UNKNOWN : 0;
    }

    private boolean isCaught() {
        return settings(game.hunters()).holds(game.setting(), game.place());
    }

    /** The setting of the play behind the hunters' steps (NONE told: by best); NONE, if they cannot go so. */
    private int settingBehind(int hunters) {
        Settings rows = settings(game.hunters());
        if (hunters == NONE) {
            return chase(game.hunters(), game.speed()).bestMove(game.setting(), game.place());
        }
        int told = rows.told(hunters);
        return rows.canStep(game.setting(), told) ? rows.rising(told) : NONE;
    }

    /** Where it flees to from hunters at a setting (NONE told: by best); NONE, if it cannot go so. */
    private int placeBehind(int setting, int place) {
        Chase chase = chase(game.hunters(), game.speed());
        if (place == NONE) {
            return chase.bestFlight(setting, game.place());
        }
        return has(chase.flights(setting, game.place()), place) ? place : NONE;
    }

    /** Places and roads; sets of places are bits. */
    private static final class Net {
        private int places;
        private int changes;
        private final int[] out = new int[MOST_PLACES];
        private final int[] in = new int[MOST_PLACES];
        private final int[] ahead = new int[SETS];
        private final int[] behind = new int[SETS];

        Net(int places) {
            reset(places);
            settle();
        }

        int places() {
            return places;
        }

        /** Another number behind each change: what was worked out for another one is stale. */
        int changes() {
            return changes;
        }

        int all() {
            return (1 << places) - 1;
        }

        boolean known(int place) {
            return place >= 0 && place < places;
        }

        boolean holdsAll(int set) {
            return (set & ~all()) == 0;
        }

        void reset(int count) {
            places = count;
            for (int p = 0; p < MOST_PLACES; p++) {
                out[p] = p < count ? 1 << p : 0;
                in[p] = out[p];
            }
        }

        void set(int from, int to, boolean is) {
            if (!known(from) || !known(to) || from == to) {
                return;
            }
            if (is) {
                out[from] |= 1 << to;
                in[to] |= 1 << from;
            } else {
                out[from] &= ~(1 << to);
                in[to] &= ~(1 << from);
            }
        }

        /** Ends a change: the steps of whole sets are kept, for the searches ask for them so often. */
        void settle() {
            changes++;
            for (int p = 0; p < MOST_PLACES; p++) {
                int bit = 1 << p;
                for (int set = bit; set < 2 * bit && set < SETS; set++) {
                    ahead[set] = ahead[set - bit] | out[p];
                    behind[set] = behind[set - bit] | in[p];
                }
            }
        }

        int outOf(int place) {
            return known(place) ? out[place] : 0;
        }

        /** To which one goes in a step, and comes back from in one. */
        int bothWays(int place) {
            return known(place) ? out[place] & in[place] : 0;
        }

        int aheadOf(int set) {
            return ahead[set & SETS - 1];
        }

        int behindOf(int set) {
            return behind[set & SETS - 1];
        }

        /** By roads taken both ways, the set itself too. */
        int around(int set) {
            return ahead[set & SETS - 1] | behind[set & SETS - 1];
        }

        /** Where one who is not seen may be, if it was in a set and hunters have come to places. */
        int leftBehind(int hunters, int set) {
            return aheadOf(set & ~hunters) & ~hunters;
        }

        int distance(int from, int to) {
            int met = 1 << from;
            for (int steps = 0; steps < MOST_PLACES; steps++) {
                if (has(met, to)) {
                    return steps;
                }
                met = aheadOf(met);
            }
            return NONE;
        }

        int pairs() {
            int pairs = 0;
            for (int p = 0; p < places && p < MOST_PLACES; p++) {
                pairs += Integer.bitCount(out[p]) - 1;
            }
            return pairs;
        }
    }

    /** The text, read token by token to its first fault. */
    private static final class Text {
        private static final int MOST_BYTES = 160;
        private static final int MOST_LINES = 16;
        private static final int BLANK = 32;
        private static final int SEMICOLON = 59;
        private static final int OTHER = 0, LETTER = 1, DIGIT = 2;
        private static final int ROAD = 0, WAY = 1, NET = 2;

        private final int[] bytes = new int[MOST_BYTES];
        private int length;
        private int tokenStart;
        private int tokenEnd;
        private int placesThen;
        private int lines;
        private final int[] kinds = new int[MOST_LINES];
        private final int[] firsts = new int[MOST_LINES];
        private final int[] seconds = new int[MOST_LINES];

        int length() {
            return length;
        }

        void drop() {
            length = 0;
        }

        boolean append(long more, int n) {
            if (n < 0 || n > MOST_BYTES - length) {
                return false;
            }
            for (int i = 0; i < n; i++) {
                bytes[length + i] = (int) (more >> 8 * i & 255);
            }
            length += n;
            return true;
        }

        /** The place of the fault, where there are so many places ahead of the text; NONE. */
        int read(int places) {
            tokenEnd = 0;
            placesThen = places;
            lines = 0;
            for (int line = 0; line < MOST_LINES; line++) {
                if (!readLine(line)) {
                    return tokenStart;
                }
                lines = line + 1;
                nextToken();
                if (tokenStart >= length) {
                    return NONE;
                }
                if (byteAt(tokenStart) != SEMICOLON || lines == MOST_LINES) {
                    return tokenStart;
                }
            }
            return tokenStart;
        }

        /** Lays the lines of the last read(), which found no fault. */
        void layOn(Net net) {
            for (int line = 0; line < lines && line < MOST_LINES; line++) {
                if (kinds[line] == NET) {
                    net.reset(firsts[line]);
                } else {
                    net.set(firsts[line], seconds[line], true);
                }
                if (kinds[line] == ROAD) {
                    net.set(seconds[line], firsts[line], true);
                }
            }
            net.settle();
        }

        /** Whether the next line is without fault; if not, the token read last is the one at fault. */
        private boolean readLine(int line) {
            nextToken();
            int kind = lineKind();
            if (kind == NONE) {
                return false;
            }
            nextToken();
            int first = number();
            int second = NONE;
            if (kind == NET) {
                if (first < 1 || first > MOST_PLACES) {
                    return false;
                }
                placesThen = first;
            } else {
                if (first < 0 || first >= placesThen) {
                    return false;
                }
                nextToken();
                second = number();
                if (second < 0 || second >= placesThen || second == first) {
                    return false;
                }
            }
            kinds[line] = kind;
            firsts[line] = first;
            seconds[line] = second;
            return true;
        }

        private int byteAt(int i) {
            return i >= 0 && i < length && i < MOST_BYTES ? bytes[i] : NONE;
        }

        private int kindAt(int i) {
            int b = byteAt(i);
            if (b >= 'a' && b <= 'z') {
                return LETTER;
            }
            return b >= '0' && b <= '9' ? DIGIT : OTHER;
        }

        /** At the end of the text the token is empty and begins at the length. */
        private void nextToken() {
            tokenStart = tokenEnd;
            while (tokenStart < length && byteAt(tokenStart) == BLANK) {
                tokenStart++;
            }
            tokenEnd = Math.min(tokenStart + 1, length);
            int kind = kindAt(tokenStart);
            while (tokenEnd < length && kind != OTHER && kindAt(tokenEnd) == kind) {
                tokenEnd++;
            }
        }

        private int lineKind() {
            if (isWord("road")) {
                return ROAD;
            }
            if (isWord("way")) {
                return WAY;
            }
            return isWord("net") ? NET : NONE;
        }

        private boolean isWord(String word) {
            if (tokenEnd - tokenStart != word.length()) {
                return false;
            }
            for (int i = 0; i < word.length(); i++) {
                if (byteAt(tokenStart + i) != word.charAt(i)) {
                    return false;
                }
            }
            return true;
        }

        private int number() {
            boolean fits = tokenEnd - tokenStart == 1 && kindAt(tokenStart) == DIGIT;
            return fits ? byteAt(tokenStart) - '0' : NONE;
        }
    }

    /** Rows of k places as numbers of base 8, the first the highest figure; a SETTING is a rising one. */
    private static final class Settings {
        private final Net net;
        private final int hunters;
        private final int size;
        private final int[] placesOf;

        Settings(Net net, int hunters) {
            this.net = net;
            this.hunters = hunters;
            size = 1 << 3 * hunters;
            placesOf = new int[size];
            for (int row = 0; row < size; row++) {
                for (int i = 0; i < hunters; i++) {
                    placesOf[row] |= 1 << figure(row, i);
                }
            }
        }

        int hunters() {
            return hunters;
        }

        int size() {
            return size;
        }

        int figure(int row, int i) {
            return row >> 3 * (hunters - 1 - i) & 7;
        }

        int placesOf(int row) {
            return row >= 0 && row < size ? placesOf[row] : 0;
        }

        boolean holds(int row, int place) {
            return has(placesOf(row), place);
        }

        boolean isRow(int row) {
            return row >= 0 && row < size && (placesOf[row] & ~net.all()) == 0;
        }

        boolean isSetting(int row) {
            return isRow(row) && rising(row) == row;
        }

        /** The row told with four bits a place, the first lowest, in the order told; NONE: no such place. */
        int told(int bits) {
            int row = 0;
            for (int i = 0; i < hunters; i++) {
                int place = bits >> 4 * i & 15;
                if (!net.known(place)) {
                    return NONE;
                }
                row = row << 3 | place;
            }
            return row;
        }

        int rising(int row) {
            if (hunters == 1) {
                return row;
            }
            int a = figure(row, 0);
            int b = figure(row, 1);
            if (hunters == 2) {
                return Math.min(a, b) << 3 | Math.max(a, b);
            }
            int c = figure(row, 2);
            int low = Math.min(a, Math.min(b, c));
            int high = Math.max(a, Math.max(b, c));
            return low << 6 | a + b + c - low - high << 3 | high;
        }

        /** Whether each hunter steps from its place in one row to that of the other row. */
        boolean canStep(int from, int to) {
            for (int i = 0; i < hunters; i++) {
                if (!has(net.outOf(figure(from, i)), figure(to, i))) {
                    return false;
                }
            }
            return true;
        }
    }

    /** All stands of k hunters, in any order, and one of a speed, worked out backwards from the catch. */
    private static final class Chase {
        private static final int ENDLESS = 1 << 20;

        private final Net net;
        private final Settings settings;
        private final int speed;
        private final int[] left;
        private final int[] sure;
        private final int[] trapped;
        private final int[] widened;
        private int solvedFor;

        Chase(Net net, Settings settings, int speed) {
            this.net = net;
            this.settings = settings;
            this.speed = speed;
            left = new int[settings.size() * MOST_PLACES];
            sure = new int[settings.size()];
            trapped = new int[settings.size()];
            widened = new int[settings.size()];
            solvedFor = NONE;
        }

        /** To be called ahead of all others, when the net may have changed. */
        void solve() {
            if (solvedFor == net.changes()) {
                return;
            }
            solvedFor = net.changes();
            begin();
            boolean more = true;
            // Each round but the last adds a stand, so that there are no more rounds than stands.
            for (int round = 1; round <= left.length && more; round++) {
                trap();
                for (int hunter = 0; hunter < settings.hunters(); hunter++) {
                    widen(hunter);
                }
                more = note(round);
            }
        }

        /** Rounds from a stand; NONE: without end. */
        int roundsFrom(int row, int place) {
            int rounds = leftAt(row, place);
            return rounds == ENDLESS ? NONE : rounds;
        }

        int mostFrom(int row) {
            int most = mostAmong(row, net.all());
            return most == ENDLESS ? NONE : most;
        }

        int bestSetting() {
            int best = NONE;
            int least = ENDLESS;
            for (int row = 0; row < settings.size(); row++) {
                int most = settings.isSetting(row) ? mostAmong(row, net.all()) : ENDLESS;
                if (most < least) {
                    best = row;
                    least = most;
                }
            }
            return best;
        }

        int countEndless() {
            int stands = 0;
            for (int row = 0; row < sure.length; row++) {
                if (settings.isSetting(row)) {
                    stands += Integer.bitCount(net.all() & ~sure[row]);
                }
            }
            return stands;
        }

        int bestMove(int row, int place) {
            int best = settings.rising(row);
            int least = ENDLESS;
            for (int to = 0; to < settings.size(); to++) {
                if (!settings.canStep(row, to)) {
                    continue;
                }
                int rest = settings.holds(to, place) ? 0 : mostAmong(to, flights(to, place));
                int setting = settings.rising(to);
                if (rest < least || rest == least && rest < ENDLESS && setting < best) {
                    best = setting;
                    least = rest;
                }
            }
            return best;
        }

        int bestFlight(int row, int place) {
            int reached = flights(row, place);
            int best = place;
            int most = NONE;
            for (int p = 0; p < net.places(); p++) {
                int rounds = has(reached, p) ? leftAt(row, p) : NONE;
                if (rounds > most) {
                    best = p;
                    most = rounds;
                }
            }
            return best;
        }

        /** To which places it can go from a place when hunters have stepped to a row. */
        int flights(int row, int place) {
            int reached = 1 << place;
            for (int step = 0; step < speed; step++) {
                reached = net.aheadOf(reached) & ~settings.placesOf(row);
            }
            return reached;
        }

        private int leftAt(int row, int place) {
            boolean stands = row >= 0 && row < sure.length && place >= 0 && place < MOST_PLACES;
            return stands ? left[row * MOST_PLACES + place] : ENDLESS;
        }

        private int mostAmong(int row, int places) {
            int most = 0;
            for (int p = 0; p < MOST_PLACES; p++) {
                if (has(places, p)) {
                    most = Math.max(most, leftAt(row, p));
                }
            }
            return most;
        }

        private void begin() {
            Arrays.fill(left, ENDLESS);
            for (int row = 0; row < sure.length; row++) {
                sure[row] = settings.placesOf(row);
                for (int hunter = 0; hunter < settings.hunters(); hunter++) {
                    left[row * MOST_PLACES + settings.figure(row, hunter)] = 0;
                }
            }
        }

        /** Where it is caught, or can flee to sure places alone, when hunters have stepped to each row. */
        private void trap() {
            for (int row = 0; row < trapped.length; row++) {
                if (!settings.isRow(row)) {
                    continue;
                }
                int hopeful = net.all() & ~sure[row];
                for (int step = 0; step < speed; step++) {
                    hopeful = net.behindOf(hopeful) & ~settings.placesOf(row);
                }
                trapped[row] = net.all() & ~hopeful;
            }
        }

        /** Joins to each row what is trapped in all rows to which one hunter's step leads. */
        private void widen(int hunter) {
            int unit = 1 << 3 * (settings.hunters() - 1 - hunter);
            Arrays.fill(widened, 0);
            for (int from = 0; from < net.places(); from++) {
                int reached = net.outOf(from);
                for (int to = 0; to < net.places(); to++) {
                    if (has(reached, to)) {
                        joinRows(from, to, unit);
                    }
                }
            }
            System.arraycopy(widened, 0, trapped, 0, Math.min(widened.length, trapped.length));
        }

        /** For all rows of the other hunters; the one who steps has the figure of this unit. */
        private void joinRows(int from, int to, int unit) {
            int last = Math.min(widened.length, trapped.length) - MOST_PLACES * unit;
            if (from < 0 || from >= MOST_PLACES || to < 0 || to >= MOST_PLACES || unit < 1) {
                return;
            }
            for (int block = 0; block <= last; block += MOST_PLACES * unit) {
                for (int row = block; row < block + unit; row++) {
                    widened[row + from * unit] |= trapped[row + to * unit];
                }
            }
        }

        /** Whether there are stands that are won in so many rounds, and not in fewer. */
        private boolean note(int round) {
            boolean more = false;
            for (int row = 0; row < sure.length; row++) {
                int fresh = settings.isRow(row) ? trapped[row] & ~sure[row] : 0;
                if (fresh == 0) {
                    continue;
                }
                more = true;
                sure[row] |= fresh;
                for (int p = 0; p < MOST_PLACES; p++) {
                    if (has(fresh, p)) {
                        left[row * MOST_PLACES + p] = round;
                    }
                }
            }
            return more;
        }
    }

    /** The stand of the play, and how it began. */
    private static final class Play {
        private boolean on;
        private int hunters;
        private int speed;
        private int setting;
        private int place;
        private int gone;

        boolean isOn() {
            return on;
        }

        int hunters() {
            return hunters;
        }

        int speed() {
            return speed;
        }

        int setting() {
            return setting;
        }

        int place() {
            return place;
        }

        int gone() {
            return gone;
        }

        void begin(int k, int s, int firstSetting, int firstPlace) {
            on = true;
            hunters = k;
            speed = s;
            setting = firstSetting;
            place = firstPlace;
            gone = 0;
        }

        void go(int nextSetting, int nextPlace) {
            setting = nextSetting;
            place = nextPlace;
            gone++;
        }

        void end() {
            on = false;
            gone = 0;
        }
    }

    /**
     * The shortest row of settings that leaves one who is not seen no place. The stands are met in
     * the order of their first rows, so that the first end that is met has the first of all rows.
     */
    private static final class Unseen {
        /** Two hunters on 8 places: 28 settings of two places with 64 sets, 8 of one with 128. */
        private static final int MOST_STANDS = 28 * 64 + 8 * 128;

        private final Net net;
        private final int[] stands = new int[MOST_STANDS];
        private final int[] parents = new int[MOST_STANDS];
        private final int[] met = new int[64 * SETS / 32];
        private Settings settings;
        private int count;
        private int end;
        private int length;
        private int solvedFor;
        private int solvedFirst;

        Unseen(Net net, Settings settings) {
            this.net = net;
            this.settings = settings;
            end = NONE;
            length = NONE;
            solvedFor = NONE;
        }

        /** How many steps the row has that was searched for last; NONE: there is no such row. */
        int length() {
            return length;
        }

        int settingAt(int i) {
            if (i < 0 || i > length) {
                return NONE;
            }
            int stand = end;
            for (int step = length; step > i; step--) {
                stand = parentOf(stand);
            }
            return stand >= 0 && stand < MOST_STANDS ? stands[stand] / SETS : NONE;
        }

        /** From a setting on, or from any one (NONE). */
        void search(Settings rows, int first) {
            if (solvedFor == net.changes() && settings == rows && solvedFirst == first) {
                return;
            }
            solvedFor = net.changes();
            settings = rows;
            solvedFirst = first;
            Arrays.fill(met, 0);
            count = 0;
            end = NONE;
            for (int row = 0; row < rows.size(); row++) {
                if (first == NONE ? rows.isSetting(row) : row == first) {
                    meet(row, net.all() & ~rows.placesOf(row), NONE);
                }
            }
            for (int at = 0; at < count && at < MOST_STANDS && end == NONE; at++) {
                expand(at);
            }
            length = end == NONE ? NONE : depthOf(end);
        }

        private int parentOf(int stand) {
            return stand >= 0 && stand < MOST_STANDS ? parents[stand] : NONE;
        }

        private int depthOf(int stand) {
            int depth = 0;
            for (int up = parentOf(stand); up != NONE && depth < MOST_STANDS; up = parentOf(up)) {
                depth++;
            }
            return depth;
        }

        /** Meets all stands that are a step further, by rising settings. */
        private void expand(int at) {
            int row = stands[at] / SETS;
            int reachedFirst = net.outOf(settings.figure(row, 0));
            if (settings.hunters() == 1) {
                for (int a = 0; a < MOST_PLACES; a++) {
                    if (has(reachedFirst, a)) {
                        step(at, a);
                    }
                }
                return;
            }
            int reachedSecond = net.outOf(settings.figure(row, 1));
            for (int a = 0; a < MOST_PLACES; a++) {
                int others = (has(reachedFirst, a) ? reachedSecond : 0) | (has(reachedSecond, a) ? reachedFirst : 0);
                for (int b = a; b < MOST_PLACES; b++) {
                    if (has(others, b)) {
                        step(at, a << 3 | b);
                    }
                }
            }
        }

        private void step(int at, int row) {
            meet(row, net.leftBehind(settings.placesOf(row), stands[at] % SETS), at);
        }

        private void meet(int row, int set, int parent) {
            int stand = row * SETS + set;
            int word = stand >> 5;
            if (end != NONE || count >= MOST_STANDS || word < 0 || word >= met.length) {
                return;
            }
            if (has(met[word], stand & 31)) {
                return;
            }
            met[word] |= 1 << (stand & 31);
            stands[count] = stand;
            parents[count] = parent;
            if (set == 0) {
                end = count;
            }
            count++;
        }
    }

    /** The best order of places for flying hunters, seen or not, worked out from its end by sets. */
    private static final class Orders {
        private final Net net;
        private final boolean seen;
        private final int[] rest = new int[SETS];
        private final int[] order = new int[MOST_PLACES];
        private int solvedFor;

        Orders(Net net, boolean seen) {
            this.net = net;
            this.seen = seen;
            solvedFor = NONE;
        }

        int hunters() {
            solve();
            return rest[0] + 1;
        }

        int placeAt(int i) {
            solve();
            return net.known(i) ? order[i] : NONE;
        }

        private void solve() {
            if (solvedFor == net.changes()) {
                return;
            }
            solvedFor = net.changes();
            int all = net.all();
            for (int gone = Math.min(all, SETS - 1); gone >= 0; gone--) {
                int least = gone == all ? 0 : MOST_PLACES;
                for (int p = 0; p < net.places(); p++) {
                    if (!has(gone, p)) {
                        least = Math.min(least, most(gone, p));
                    }
                }
                rest[gone] = least;
            }
            choose();
        }

        /** Any order that never needs more than the least number is best: the first such is taken. */
        private void choose() {
            int gone = 0;
            for (int i = 0; i < net.places() && i < MOST_PLACES; i++) {
                int next = NONE;
                for (int p = 0; p < net.places() && next == NONE; p++) {
                    if (!has(gone, p) && most(gone, p) <= rest[0]) {
                        next = p;
                    }
                }
                order[i] = next;
                gone |= next == NONE ? 0 : 1 << next;
            }
        }

        /** The most that is needed from here on, if a place is the next one behind those gone. */
        private int most(int gone, int place) {
            int behind = (gone | 1 << place) & SETS - 1;
            return Math.max(seen ? neighbours(gone, place) : border(behind), rest[behind]);
        }

        private int border(int gone) {
            return Integer.bitCount(gone & net.around(net.all() & ~gone));
        }

        private int neighbours(int gone, int place) {
            int met = 1 << place;
            for (int step = 0; step < MOST_PLACES; step++) {
                met |= net.around(met) & gone;
            }
            return Integer.bitCount(net.around(met) & ~gone & ~(1 << place));
        }
    }

    /** Places taken away, and the least sets that see or touch all. */
    private static final class Covers {
        private final Net net;

        Covers(Net net) {
            this.net = net;
        }

        /** The i-th place that is taken away, or NONE; how many are left (i -1). */
        int takenAway(int i) {
            int left = net.all();
            for (int gone = 0; gone < MOST_PLACES; gone++) {
                int place = leastCovered(left);
                if (place == NONE) {
                    break;
                }
                if (gone == i) {
                    return place;
                }
                left &= ~(1 << place);
            }
            return i == -1 ? Integer.bitCount(left) : NONE;
        }

        private int leastCovered(int left) {
            for (int p = 0; p < net.places(); p++) {
                if (has(left, p) && isCovered(left, p)) {
                    return p;
                }
            }
            return NONE;
        }

        private boolean isCovered(int left, int place) {
            for (int p = 0; p < net.places(); p++) {
                boolean other = p != place && has(left, p);
                if (other && (net.bothWays(place) & left & ~net.bothWays(p)) == 0) {
                    return true;
                }
            }
            return false;
        }

        int leastSet(boolean sees) {
            // All places see and touch all; any other set that does has fewer.
            int least = net.all();
            for (int set = 0; set < net.all(); set++) {
                boolean fewer = Integer.bitCount(set) < Integer.bitCount(least);
                if (fewer && (sees ? net.aheadOf(set) == net.all() : touchesAll(set))) {
                    least = set;
                }
            }
            return least;
        }

        private boolean touchesAll(int set) {
            int others = net.all() & ~set;
            for (int p = 0; p < net.places(); p++) {
                if (has(others, p) && (net.outOf(p) & others) != 1 << p) {
                    return false;
                }
            }
            return true;
        }
    }

    /**
     * Guards of one mode. A row of 256 bits, in four words, is a set of sets of places: bit t tells
     * of the set t. For each set there is the row of those to which its guards can go, and one row
     * of those that are safe: all of them, but for those that are found to have no answer.
     */
    private static final class Guards {
        private static final int WORDS = 4;
        /** Which of 64 sets in a word lack place 0, 1, .. 5. */
        private static final long[] LACKS = {
            0x5555555555555555L, 0x3333333333333333L, 0x0F0F0F0F0F0F0F0FL,
            0x00FF00FF00FF00FFL, 0x0000FFFF0000FFFFL, 0x00000000FFFFFFFFL
        };

        private final Net net;
        private final int mode;
        private final long[] moves = new long[SETS * WORDS];
        private final long[] safe = new long[WORDS];
        private int solvedFor;

        Guards(Net net, int mode) {
            this.net = net;
            this.mode = mode;
            solvedFor = NONE;
        }

        boolean holdsOut(int set) {
            solve();
            return isSafe(set);
        }

        int leastSet() {
            solve();
            int least = net.all();
            for (int set = 1; set < net.all(); set++) {
                if (Integer.bitCount(set) < Integer.bitCount(least) && isSafe(set)) {
                    least = set;
                }
            }
            return least;
        }

        int countSets(int guards) {
            solve();
            int sets = 0;
            for (int set = 1; set <= net.all(); set++) {
                if (Integer.bitCount(set) == guards && isSafe(set)) {
                    sets++;
                }
            }
            return sets;
        }

        /** The least safe set to which the guards at a set can go, one of them to the place; NONE. */
        int leastAnswer(int set, int place) {
            solve();
            for (int word = 0; word < WORDS; word++) {
                long answers = answersIn(set, place, word);
                if (answers != 0) {
                    return word * 64 + Long.bitCount((answers & -answers) - 1);
                }
            }
            return NONE;
        }

        private boolean isSafe(int set) {
            return set >= 0 && set < SETS && (safe[set >> 6] >> (set & 63) & 1) != 0;
        }

        private long answersIn(int set, int place, int word) {
            if (set < 0 || set >= SETS || word < 0 || word >= WORDS) {
                return 0;
            }
            return moves[set * WORDS + word] & safe[word] & having(place, word);
        }

        /** Which of the 64 sets of a word have a place. */
        private static long having(int place, int word) {
            if (place >= 0 && place < LACKS.length) {
                return ~LACKS[place];
            }
            return (word >> place - LACKS.length & 1) != 0 ? -1L : 0L;
        }

        private void solve() {
            if (solvedFor == net.changes()) {
                return;
            }
            solvedFor = net.changes();
            Arrays.fill(moves, 0);
            Arrays.fill(safe, 0);
            if (mode == ALONE) {
                moveAlone();
            } else {
                moveTogether();
            }
            for (int set = 1; set <= net.all(); set++) {
                put(safe, 0, set);
            }
            boolean more = true;
            for (int pass = 0; pass <= SETS && more; pass++) {
                more = dropUnsafe();
            }
        }

        /** Whether a set had to be dropped, for it has no answer to some call. */
        private boolean dropUnsafe() {
            boolean dropped = false;
            for (int set = 1; set <= net.all() && set < SETS; set++) {
                if (isSafe(set) && !answersAll(set)) {
                    safe[set >> 6] &= ~(1L << (set & 63));
                    dropped = true;
                }
            }
            return dropped;
        }

        private boolean answersAll(int set) {
            for (int p = 0; p < net.places(); p++) {
                boolean answered = has(set, p);
                for (int word = 0; word < WORDS && !answered; word++) {
                    answered = answersIn(set, p, word) != 0;
                }
                if (!answered) {
                    return false;
                }
            }
            return true;
        }

        private static void put(long[] row, int from, int set) {
            int word = from + (set >> 6);
            if (word >= 0 && word < row.length) {
                row[word] |= 1L << (set & 63);
            }
        }

        private void moveAlone() {
            for (int set = 1; set <= net.all(); set++) {
                for (int guard = 0; guard < net.places(); guard++) {
                    int calls = has(set, guard) ? net.outOf(guard) & ~set : 0;
                    for (int p = 0; p < net.places(); p++) {
                        if (has(calls, p)) {
                            put(moves, set * WORDS, set & ~(1 << guard) | 1 << p);
                        }
                    }
                }
            }
        }

        /** The guard at the highest place of a set steps behind all others have stepped. */
        private void moveTogether() {
            put(moves, 0, 0);
            for (int guard = 0; guard < net.places(); guard++) {
                int bit = 1 << guard;
                for (int set = bit; set < 2 * bit; set++) {
                    for (int p = 0; p < net.places(); p++) {
                        if (has(net.outOf(guard), p)) {
                            addPlace((set - bit) * WORDS, set * WORDS, p);
                        }
                    }
                }
            }
        }

        /** Joins to one row all sets of another one that lack a place, with that place. */
        private void addPlace(int from, int to, int place) {
            if (from < 0 || to < 0 || from + WORDS > moves.length || to + WORDS > moves.length) {
                return;
            }
            for (int word = 0; word < WORDS; word++) {
                long sets = moves[from + word] & ~having(place, word);
                if (place < LACKS.length) {
                    moves[to + word] |= sets << (1 << place);
                } else if (sets != 0) {
                    int far = word + (1 << place - LACKS.length) & WORDS - 1;
                    moves[to + far] |= sets;
                }
            }
        }
    }
}
