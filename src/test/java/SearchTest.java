import java.util.PriorityQueue;

/**
 * Rounds, and all that is built on them, against a plain search: step by step over single ways, setting down at
 * once where an errand goes to, with every set, strength, kind and bridge tried.
 */
public final class SearchTest {
    private static final int FAR = 1000000;
    private static final int[][] UNDER = {{0}, {1, 0}, {2, 0}, {3, 1, 0}, {4, 2, 0}, {5, 0}, {6, 5, 0}};

    private int z;
    private CarryFair x;
    private final int[] kind = new int[3];
    private final int[] place = new int[3];
    private final int[] strength = new int[3];
    private final int[] earned = new int[3];
    private final int[][] yards = new int[7][7];
    private final int[][] river = new int[7][7];
    private int errands;
    private final int[] pounds = new int[8];
    private final int[] from = new int[8];
    private final int[] to = new int[8];

    private SearchTest(int seed) {
        z = seed;
    }

    public static void main(String[] args) {
        for (int seed = 1; seed <= 120; seed++) {
            SearchTest test = new SearchTest(seed * 7919);
            test.make();
            test.compareWays();
            test.compareRounds();
            test.compareEarning();
        }
        Due.end();
    }

    private int any(int below) {
        z = z * 1664525 + 1013904223;
        return (z >>> 10) % below;
    }

    private void make() {
        x = new CarryFair();
        for (int c = 0; c < 3; c++) {
            kind[c] = any(7);
            place[c] = any(any(3) == 0 ? 7 : 4);
            strength[c] = 1 + any(any(2) == 0 ? 99 : 30);
            earned[c] = any(2) * any(300);
            x.carrier(kind[c]);
            x.change(c, 1, place[c]);
            x.change(c, 2, strength[c]);
            x.change(c, 3, earned[c]);
        }
        int ways = 3 + any(9);
        for (int i = 0; i < ways; i++) {
            int a = any(7);
            int b = (a + 1 + any(6)) % 7;
            lay(a, b, any(8) == 0 ? 0 : 1 + any(any(3) == 0 ? 3 : 20), any(2));
        }
        errands = 2 + any(7);
        for (int e = 0; e < errands; e++) {
            pounds[e] = 1 + any(any(3) == 0 ? 60 : 15);
            from[e] = any(5);
            to[e] = (from[e] + 1 + any(any(3) == 0 ? 6 : 4)) % 7;
            Due.is("errand", x.errand(pounds[e], from[e], to[e]), e);
        }
    }

    private void lay(int a, int b, int y, int r) {
        x.way(a, b, y, r);
        yards[a][b] = y;
        yards[b][a] = y;
        river[a][b] = r;
        river[b][a] = r;
    }

    private static boolean isUnder(int k, int above) {
        for (int u : UNDER[k]) {
            if (u == above) {
                return true;
            }
        }
        return false;
    }

    private static int bears(int k, int s) {
        return isUnder(k, 1) ? s / 2 : isUnder(k, 2) ? 2 * s : s;
    }

    private int step(int k, int a, int b) {
        if (yards[a][b] == 0) {
            return FAR;
        }
        if (river[a][b] == 0) {
            return yards[a][b];
        }
        return k == 6 ? Math.max(1, yards[a][b] / 2) : k == 5 ? yards[a][b] : 2 * yards[a][b];
    }

    private int[] farFrom(int k, int start) {
        int[] far = {FAR, FAR, FAR, FAR, FAR, FAR, FAR};
        far[start] = 0;
        for (int turn = 0; turn < 7; turn++) {
            for (int a = 0; a < 7; a++) {
                for (int b = 0; b < 7; b++) {
                    far[b] = Math.min(far[b], far[a] + step(k, a, b));
                }
            }
        }
        return far;
    }

    private int worth(int e) {
        int far = farFrom(0, from[e])[to[e]];
        return far >= FAR ? -1 : pounds[e] * far;
    }

    private int pay(int k, int e) {
        int p = worth(e);
        return k == 2 ? p / 2 : k == 4 ? p / 2 + 1 : k == 3 ? p + p / 10 : p;
    }

    /** How the errands are, two bits each, and the place: 0 lies, 1 carried, 2 done. */
    private int round(int k, int start, int bears, int set) {
        int[] least = new int[7 << 16];
        java.util.Arrays.fill(least, FAR);
        PriorityQueue<long[]> open = new PriorityQueue<>((a, b) -> Long.compare(a[0], b[0]));
        least[start] = 0;
        open.add(new long[] {0, start});
        while (!open.isEmpty()) {
            long[] top = open.poll();
            int at = (int) (top[1] % 7);
            int how = (int) (top[1] / 7);
            if (top[0] > least[(int) top[1]]) {
                continue;
            }
            int load = 0;
            boolean all = true;
            for (int e = 0; e < errands; e++) {
                if ((set >> e & 1) == 1) {
                    load += (how >> 2 * e & 3) == 1 ? pounds[e] : 0;
                    all &= (how >> 2 * e & 3) == 2;
                }
            }
            if (all) {
                return (int) top[0];
            }
            for (int e = 0; e < errands; e++) {
                if ((set >> e & 1) == 1 && (how >> 2 * e & 3) == 0 && from[e] == at && load + pounds[e] <= bears) {
                    reach(least, open, at, how | 1 << 2 * e, top[0]);
                }
            }
            for (int b = 0; b < 7; b++) {
                if (b == at || step(k, at, b) >= FAR) {
                    continue;
                }
                int then = how;
                for (int e = 0; e < errands; e++) {
                    if ((how >> 2 * e & 3) == 1 && to[e] == b) {
                        then = then & ~(3 << 2 * e) | 2 << 2 * e;
                    }
                }
                reach(least, open, b, then, top[0] + step(k, at, b));
            }
        }
        return FAR;
    }

    private static void reach(int[] least, PriorityQueue<long[]> open, int at, int how, long walked) {
        int key = how * 7 + at;
        if (walked < least[key]) {
            least[key] = (int) walked;
            open.add(new long[] {walked, key});
        }
    }

    private int round(int c, int set) {
        return round(kind[c], place[c], bears(kind[c], strength[c]), set);
    }

    private static int orNone(int v) {
        return v >= FAR ? Due.NONE : v;
    }

    private void compareWays() {
        for (int c = 0; c < 3; c++) {
            int reach = 0;
            int middle = -1;
            int nearest = FAR;
            for (int a = 0; a < 7; a++) {
                int[] far = farFrom(kind[c], a);
                int farthest = 0;
                boolean ways = false;
                for (int b = 0; b < 7; b++) {
                    Due.is("11 far", x.far(c, a, b), orNone(far[b]));
                    reach |= a == place[c] && far[b] < FAR ? 1 << b : 0;
                    ways |= yards[a][b] > 0;
                    farthest = hasWay(b) ? Math.max(farthest, far[b]) : farthest;
                }
                if (ways && farthest < nearest) {
                    nearest = farthest;
                    middle = a;
                }
            }
            Due.is("30 reach", x.reach(c), reach);
            Due.is("31 middle", x.middle(c), middle < 0 ? Due.NONE : middle);
            compareFirsts(c);
        }
        for (int e = 0; e < errands; e++) {
            Due.is("8 worth", x.errandOf(e, 5), worth(e) < 0 ? Due.NONE : worth(e));
        }
    }

    private boolean hasWay(int p) {
        for (int b = 0; b < 7; b++) {
            if (yards[p][b] > 0) {
                return true;
            }
        }
        return false;
    }

    private void compareFirsts(int c) {
        for (int b = 0; b < 7; b++) {
            int whole = farFrom(kind[c], place[c])[b];
            int first = whole >= FAR ? Due.NONE : place[c];
            for (int a = 6; a >= 0 && whole < FAR && b != place[c]; a--) {
                if (step(kind[c], place[c], a) < FAR && step(kind[c], place[c], a) + farFrom(kind[c], a)[b] == whole) {
                    first = a;
                }
            }
            Due.is("12 first", x.first(c, b), first);
        }
    }

    private void compareRounds() {
        for (int i = 0; i < 3; i++) {
            int c = any(3);
            int set = any(1 << errands);
            while (Integer.bitCount(set) > 4) {
                set &= ~(1 << any(errands));
            }
            int round = round(c, set);
            Due.is("18 round", x.round(c, set), orNone(round));
            int who = -1;
            for (int o = 2; o >= 0; o--) {
                who = round(o, set) < FAR && (who < 0 || round(o, set) <= round(who, set)) ? o : who;
            }
            Due.is("22 who", x.who(set), who < 0 ? Due.NONE : who);
            compareJoined(c, set, round);
            compareShared(c, (c + 1 + any(2)) % 3, set);
            compareStrengths(c, set);
            compareBridges(c, set, round);
            compareHeavy(c, set);
        }
    }

    private void compareJoined(int c, int set, int round) {
        int alone = 0;
        for (int e = 0; e < errands && round < FAR; e++) {
            if ((set >> e & 1) == 1) {
                alone += round(c, 1 << e) + farFrom(kind[c], to[e])[place[c]];
            }
        }
        Due.is("23 joined", x.joined(c, set), round < FAR ? alone - round : Due.NONE);
    }

    private void compareShared(int one, int other, int set) {
        int least = FAR;
        int part = Due.NONE;
        for (int p = 0; p <= set; p++) {
            if ((p & ~set) == 0) {
                int sum = round(one, p) + round(other, set & ~p);
                if (sum < least) {
                    least = sum;
                    part = p;
                }
            }
        }
        Due.is("24 shared", x.shared(one, other, set), orNone(least));
        Due.is("25 part", x.part(one, other, set), part);
    }

    private void compareStrengths(int c, int set) {
        int least = Due.NONE;
        int tried = -1;
        for (int s = 99; s >= 1; s--) {
            int bears = bears(kind[c], s);
            if (bears != tried && round(kind[c], place[c], bears, set) >= FAR) {
                break;
            }
            tried = bears;
            least = s;
        }
        Due.is("26 strength", x.strength(c, set), least);
        int best = FAR;
        int kindFor = Due.NONE;
        for (int k = 0; k <= 6; k++) {
            int round = round(k, place[c], bears(k, strength[c]), set);
            if (round < best) {
                best = round;
                kindFor = k;
            }
        }
        Due.is("27 kindFor", x.kindFor(c, set), kindFor);
    }

    private void compareBridges(int c, int set, int now) {
        int best = FAR;
        int bridge = Due.NONE;
        for (int a = 0; a < 7; a++) {
            for (int b = a + 1; b < 7; b++) {
                if (yards[a][b] > 0 && river[a][b] == 1) {
                    river[a][b] = 0;
                    river[b][a] = 0;
                    int round = round(c, set);
                    river[a][b] = 1;
                    river[b][a] = 1;
                    if (round < best) {
                        best = round;
                        bridge = 10 * a + b;
                    }
                }
            }
        }
        Due.is("28 bridge", x.bridge(c, set), bridge);
        Due.is("29 worth", x.worth(c, set), best < FAR && now < FAR ? now - best : Due.NONE);
    }

    private void compareHeavy(int c, int set) {
        int all = 0;
        for (int e = 0; e < errands; e++) {
            all += (set >> e & 1) == 1 ? pounds[e] : 0;
        }
        int heavy = 0;
        for (int e = 0; e < errands; e++) {
            if ((set >> e & 1) == 1 && all - pounds[e] + pounds[e] * 3 / 2 > bears(kind[c], strength[c])) {
                heavy |= 1 << e;
            }
        }
        Due.is("32 heavy", x.heavy(c, set), all > bears(kind[c], strength[c]) ? Due.STATE : heavy);
    }

    private void compareEarning() {
        int c = any(3);
        int[] rounds = new int[1 << errands];
        int[] pays = new int[1 << errands];
        for (int set = 0; set < rounds.length; set++) {
            rounds[set] = Integer.bitCount(set) > 3 && errands > 6 || Integer.bitCount(set) > 5 ? -1 : round(c, set);
            int worthless = 0;
            for (int e = 0; e < errands; e++) {
                if ((set >> e & 1) == 1) {
                    worthless += worth(e) < 0 ? 1 : 0;
                    pays[set] += pay(kind[c], e);
                }
            }
            if (Integer.bitCount(set) <= 5) {
                Due.is("19 gets", x.gets(c, set), worthless > 0 ? Due.NONE : pays[set]);
            }
        }
        for (int w = 0; w < 6; w++) {
            int price = 1 + any(w < 4 ? 600 : 4000);
            x.ware(price);
            int best = FAR;
            int which = Due.NONE;
            for (int set = 0; set < rounds.length; set++) {
                if (Integer.bitCount(set) > 5) {
                    continue;
                }
                if (rounds[set] < 0) {
                    rounds[set] = pays[set] + earned[c] >= price ? round(c, set) : -1;
                }
                if (rounds[set] >= 0 && rounds[set] < best && pays[set] + earned[c] >= price) {
                    best = rounds[set];
                    which = set;
                }
            }
            Due.is("20 cheapest", x.cheapest(c, w), orNone(best));
            Due.is("21 which", x.which(c, w), which);
        }
    }
}
