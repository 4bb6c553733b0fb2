import java.util.ArrayList;
import java.util.List;
import java.util.Random;

/** Random nets: every answer of the program against that of the slow oracle. */
public final class OracleTests {
    private static final Check CHECK = new Check("OracleTests");
    private static final int TURNS = 12;
    private static final Random RANDOM = new Random(20261117);

    public static void main(String[] args) {
        int nets = args.length > 0 ? Integer.parseInt(args[0]) : 160;
        for (int net = 0; net < nets; net++) {
            // The oracle is slow on big nets: one of sixteen is enough here.
            int n = net % 16 == 15 ? 7 + net / 16 % 2 : 1 + RANDOM.nextInt(6);
            net(n, RANDOM.nextInt(3), 1 + RANDOM.nextInt(9));
        }
        CHECK.end();
    }

    private static void net(int n, int kind, int tenths) {
        boolean[][] road = new boolean[n][n];
        List<int[]> roads = new ArrayList<>();
        for (int a = 0; a < n; a++) {
            for (int b = 0; b < n; b++) {
                boolean both = kind == 0 || kind == 1 && RANDOM.nextBoolean();
                if (a != b && RANDOM.nextInt(10) < tenths && (!both || a < b)) {
                    road[a][b] = true;
                    road[b][a] |= both;
                    roads.add(new int[] {a, b, both ? 1 : 0});
                }
            }
        }
        Fresh fresh = new Fresh(n, roads);
        Oracle oracle = new Oracle(n, road);
        String told = " on " + n + " " + java.util.Arrays.deepToString(road);
        ofNet(fresh, oracle, told);
        for (int k = 1; k <= 3; k++) {
            for (int s = 1; s <= 3; s++) {
                ofChase(fresh, oracle, k, s, told);
            }
        }
        for (int s = 1; s <= 3; s++) {
            CHECK.due("fewest " + s + told, oracle.fewest(s), fresh.x().fewest(s));
        }
        ofUnseen(fresh, oracle, told);
        ofGuards(fresh, oracle, told);
    }

    private static void ofNet(Fresh fresh, Oracle oracle, String told) {
        CHECK.due("count(0)" + told, oracle.n, fresh.x().count(0));
        CHECK.due("count(1)" + told, oracle.pairs(), fresh.x().count(1));
        for (int a = 0; a < oracle.n; a++) {
            CHECK.due("steps " + a + told, oracle.bits(a), fresh.x().steps(a));
            for (int b = 0; b < oracle.n; b++) {
                CHECK.due("far " + a + " " + b + told, oracle.far(a, b), fresh.x().far(a, b));
            }
        }
        List<Integer> away = oracle.away();
        CHECK.due("away -1" + told, oracle.n - away.size(), fresh.x().away(-1));
        for (int i = 0; i <= oracle.n; i++) {
            CHECK.due("away " + i + told, i < away.size() ? away.get(i) : -1, fresh.x().away(i));
        }
        for (int what = 0; what < 2; what++) {
            CHECK.due("least " + what + told, oracle.least(what), fresh.x().least(what));
            int[] order = oracle.flying(what == 1);
            for (int i = -1; i <= oracle.n; i++) {
                int due = i < oracle.n ? order[i + 1] : -1;
                CHECK.due("flying " + what + " " + i + told, due, fresh.x().flying(what == 1, i));
            }
        }
    }

    /** The places of a setting in any order, and now and then bits that do not matter. */
    private static int told(List<Integer> setting) {
        List<Integer> mixed = new ArrayList<>(setting);
        java.util.Collections.shuffle(mixed, RANDOM);
        int hunters = RANDOM.nextInt(4) == 0 ? RANDOM.nextInt(1000) : 0;
        for (int i = mixed.size() - 1; i >= 0; i--) {
            hunters = hunters << 4 | mixed.get(i);
        }
        return hunters;
    }

    private static void ofChase(Fresh fresh, Oracle oracle, int k, int s, String net) {
        String told = " k " + k + " s " + s + net;
        CHECK.due("best 0" + told, oracle.best(k, s, 0), fresh.x().best(k, s, 0));
        CHECK.due("best 1" + told, oracle.best(k, s, 1), fresh.x().best(k, s, 1));
        CHECK.due("escapes" + told, oracle.escapes(k, s), fresh.x().escapes(k, s));
        for (List<Integer> setting : oracle.settings(k)) {
            CHECK.due("worth " + setting + told, oracle.worth(setting, s), fresh.x().worth(k, told(setting), s));
            for (int p = 0; p < oracle.n; p++) {
                String stand = setting + " " + p + told;
                CHECK.due("rounds " + stand, oracle.rounds(setting, s, p), fresh.x().rounds(k, told(setting), s, p));
                boolean caught = setting.contains(p);
                int hunt = caught ? -4 : Oracle.number(oracle.hunt(setting, s, p));
                CHECK.due("hunt " + stand, hunt, fresh.x().hunt(k, told(setting), s, p));
                int flee = caught ? -4 : oracle.flee(setting, s, p);
                CHECK.due("flee " + stand, flee, fresh.x().flee(k, told(setting), s, p));
            }
        }
        for (int i = 0; i < 4; i++) {
            playOnce(fresh, oracle, k, s, told);
        }
    }

    private static void playOnce(Fresh fresh, Oracle oracle, int k, int s, String told) {
        List<List<Integer>> settings = oracle.settings(k);
        List<Integer> setting = settings.get(RANDOM.nextInt(settings.size()));
        int place = RANDOM.nextInt(oracle.n);
        RunnerNet x = fresh.forCalls(1 + 6 * TURNS);
        CHECK.due("play" + told, 1, x.play(k, told(setting), s, place));
        int gone = 0;
        for (int i = 0; i < TURNS; i++) {
            int toldHunters = RANDOM.nextBoolean() ? -1 : 0;
            List<Integer> row = new ArrayList<>();
            boolean can = true;
            for (int h = 0; h < k; h++) {
                int to = RANDOM.nextInt(oracle.n);
                row.add(to);
                can &= oracle.goes(setting.get(h), to);
                toldHunters |= toldHunters == -1 ? 0 : to << 4 * h;
            }
            int toldPlace = RANDOM.nextBoolean() ? -1 : RANDOM.nextInt(oracle.n);
            int due;
            if (setting.contains(place)) {
                due = -4;
            } else {
                row.sort(null);
                List<Integer> then = toldHunters == -1 ? oracle.hunt(setting, s, place) : row;
                can |= toldHunters == -1;
                boolean caught = then.contains(place);
                if (can && !caught && toldPlace != -1) {
                    can = oracle.flights(then, s, place).contains(toldPlace);
                }
                due = can ? caught ? 1 : 0 : -4;
                if (can) {
                    place = caught ? place : toldPlace == -1 ? oracle.flee(then, s, place) : toldPlace;
                    setting = then;
                    gone++;
                }
            }
            CHECK.due("turn " + toldHunters + " " + toldPlace + told, due, x.turn(toldHunters, toldPlace));
            CHECK.due("now 0" + told, Oracle.number(setting), x.now(0));
            CHECK.due("now 1" + told, place, x.now(1));
            CHECK.due("now 2" + told, gone, x.now(2));
            CHECK.due("now 3" + told, setting.contains(place) ? 1 : 0, x.now(3));
            CHECK.due("count 3" + told, gone, x.count(3));
        }
    }

    private static void ofUnseen(Fresh fresh, Oracle oracle, String told) {
        for (int k = 1; k <= 2; k++) {
            for (List<Integer> setting : oracle.settings(k)) {
                int set = RANDOM.nextInt(1 << oracle.n);
                CHECK.due("spread " + setting + set + told, oracle.spread(setting, set), fresh.x().spread(k, told(setting), set));
                List<Integer> row = oracle.clear(setting);
                int length = row == null ? -1 : row.size() - 1;
                CHECK.due("clear " + setting + told, length, fresh.x().clear(k, told(setting), -1));
                for (int i = 0; i <= length + 1; i++) {
                    int due = i <= length && row != null ? row.get(i) : -1;
                    CHECK.due("clear " + setting + i + told, due, fresh.x().clear(k, told(setting), i));
                }
            }
            CHECK.due("free 0 " + k + told, oracle.free(k, 0), fresh.x().free(k, 0));
            CHECK.due("free 1 " + k + told, oracle.free(k, 1), fresh.x().free(k, 1));
        }
    }

    private static void ofGuards(Fresh fresh, Oracle oracle, String net) {
        for (int mode = 0; mode < 2; mode++) {
            String told = " mode " + mode + net;
            for (int what = 0; what < 3; what++) {
                CHECK.due("guards " + what + told, oracle.guards(mode, what), fresh.x().guards(mode, what));
            }
            for (int set = 1; set < 1 << oracle.n; set++) {
                CHECK.due("safe " + set + told, oracle.safe(set, mode), fresh.x().safe(set, mode));
                for (int p = 0; p < oracle.n; p++) {
                    int due = (set >> p & 1) != 0 ? -4 : oracle.answer(set, mode, p);
                    CHECK.due("answer " + set + " " + p + told, due, fresh.x().answer(set, mode, p));
                }
            }
        }
    }
}
