import java.lang.reflect.InvocationTargetException;
import java.lang.reflect.Method;
import java.util.ArrayList;
import java.util.HashMap;
import java.util.List;
import java.util.Map;

/**
 * The fair of the document a second time: written from its words alone, in the plainest way, with other means than
 * the class (rows of ways tried one by one, rounds from their end, texts told only when read whole). A finding is
 * thrown, and counted in answer().
 */
final class SecondFair {
    private static final int NOWHERE = 1000000;
    private static final int[] ABOVE = {-1, 0, 0, 1, 2, 0, 5};

    private static final class Finding extends RuntimeException {
        private static final long serialVersionUID = 1;
        final int which;

        Finding(int which) {
            super(null, null, false, false);
            this.which = which;
        }
    }

    /** A row of numbers that an image keeps: of a carrier, an errand, a ware, the ways, the spots. */
    static final class State {
        final List<int[]> carriers = new ArrayList<>();
        final List<int[]> errands = new ArrayList<>();
        final List<int[]> wares = new ArrayList<>();
        final int[][] yards = new int[7][7];
        final int[][] river = new int[7][7];
        final int[] spots = {-1, -1, -1, -1, -1, -1, -1, -1, -1, -1};
        int z = 1;

        State copy() {
            State c = new State();
            carriers.forEach(r -> c.carriers.add(r.clone()));
            errands.forEach(r -> c.errands.add(r.clone()));
            wares.forEach(r -> c.wares.add(r.clone()));
            for (int p = 0; p < 7; p++) {
                c.yards[p] = yards[p].clone();
                c.river[p] = river[p].clone();
            }
            System.arraycopy(spots, 0, c.spots, 0, 10);
            c.z = z;
            return c;
        }
    }

    /** Rows: a carrier is KIND, PLACE, STRENGTH, EARNED, WALKED; an errand POUNDS, FROM, TO, how, whom; a ware PRICE, whom. */
    State s = new State();
    private State image;
    private final StringBuilder tape = new StringBuilder();
    private final int[][] sheets = new int[4][];
    private final int[] bits = new int[4];
    private final int[] findings = new int[7];

    int answer(Method call, Object[] arguments) throws ReflectiveOperationException {
        try {
            return (int) call.invoke(this, arguments);
        } catch (InvocationTargetException e) {
            if (!(e.getCause() instanceof Finding)) {
                throw e;
            }
            int which = ((Finding) e.getCause()).which;
            findings[-1000001 - which]++;
            return which;
        }
    }

    private static void when(boolean so, int finding) {
        if (so) {
            throw new Finding(finding);
        }
    }

    private static void beyondUnless(boolean fits) {
        when(!fits, Due.BEYOND);
    }

    private static boolean in(int v, int least, int most) {
        return least <= v && v <= most;
    }

    private static void place(int p) {
        beyondUnless(in(p, 0, 6));
    }

    private int[] carrierRow(int c) {
        beyondUnless(in(c, 0, s.carriers.size() - 1));
        return s.carriers.get(c);
    }

    private int[] errandRow(int e) {
        beyondUnless(in(e, 0, s.errands.size() - 1));
        return s.errands.get(e);
    }

    private int[] wareRow(int w) {
        beyondUnless(in(w, 0, s.wares.size() - 1));
        return s.wares.get(w);
    }

    private List<Integer> members(int set, int most) {
        List<Integer> all = new ArrayList<>();
        for (int e = 0; e < 32; e++) {
            if ((set >>> e & 1) == 1) {
                beyondUnless(e < s.errands.size());
                all.add(e);
            }
        }
        beyondUnless(all.size() <= most);
        return all;
    }

    // ---- the terms

    private static boolean under(int kind, int other) {
        return kind == other || kind > 0 && under(ABOVE[kind], other);
    }

    private static int bears(int kind, int strength) {
        if (under(kind, 1)) {
            return strength / 2;
        }
        return under(kind, 2) ? 2 * strength : strength;
    }

    private static int counts(int kind, int yards, int river) {
        if (river == 1 && kind == 6) {
            return Math.max(1, yards / 2);
        }
        return river == 1 && kind != 5 ? 2 * yards : yards;
    }

    private static int getsFor(int kind, int p) {
        switch (kind) {
            case 2: return p / 2;
            case 3: return p * 11 / 10;
            case 4: return p / 2 + 1;
            default: return p;
        }
    }

    private int far(State of, int kind, int from, int to, int gone) {
        if (from == to) {
            return 0;
        }
        int least = NOWHERE;
        for (int next = 0; next < 7; next++) {
            if (of.yards[from][next] > 0 && (gone >> next & 1) == 0) {
                int step = counts(kind, of.yards[from][next], of.river[from][next]);
                least = Math.min(least, step + far(of, kind, next, to, gone | 1 << next));
            }
        }
        return Math.min(least, NOWHERE);
    }

    private int farFor(State of, int kind, int from, int to) {
        return far(of, kind, from, to, 1 << from);
    }

    private int[][] farsFor(State of, int kind) {
        int[][] fars = new int[7][7];
        for (int a = 0; a < 7; a++) {
            for (int b = 0; b < 7; b++) {
                fars[a][b] = farFor(of, kind, a, b);
            }
        }
        return fars;
    }

    private int worthOf(State of, int[] errand) {
        int far = farFor(of, 0, errand[1], errand[2]);
        return far == NOWHERE ? -1 : errand[0] * far;
    }

    private List<int[]> carried(State of, int c) {
        List<int[]> all = new ArrayList<>();
        for (int[] e : of.errands) {
            if (e[3] == 1 && e[4] == c) {
                all.add(e);
            }
        }
        return all;
    }

    private int load(State of, int c) {
        int sum = 0;
        for (int[] e : carried(of, c)) {
            sum += e[0];
        }
        return sum;
    }

    /** What is still to walk from a place, as the errands are (0 lies, 1 carried, 2 done, to the base 3). */
    private final class Way {
        final int[][] fars;
        final int bears;
        final List<int[]> errands = new ArrayList<>();
        final Map<Integer, Integer> known = new HashMap<>();

        Way(State of, int kind, int strength, List<Integer> set) {
            fars = farsFor(of, kind);
            bears = bears(kind, strength);
            set.forEach(e -> errands.add(of.errands.get(e)));
        }

        int toWalk(int at, int[] how) {
            int key = at;
            boolean all = true;
            int load = 0;
            for (int i = 0; i < how.length; i++) {
                key = key * 3 + how[i];
                all &= how[i] == 2;
                load += how[i] == 1 ? errands.get(i)[0] : 0;
            }
            if (all) {
                return 0;
            }
            Integer told = known.get(key);
            if (told != null) {
                return told;
            }
            int least = NOWHERE;
            for (int i = 0; i < how.length; i++) {
                if (how[i] == 1 || how[i] == 0 && load + errands.get(i)[0] <= bears) {
                    int next = errands.get(i)[how[i] == 1 ? 2 : 1];
                    least = Math.min(least, fars[at][next] + (fars[at][next] < NOWHERE ? toWalk(next, then(how, i, next)) : 0));
                }
            }
            known.put(key, least);
            return least;
        }

        /** The one is taken up; or, as all others that go there, done. */
        private int[] then(int[] how, int one, int at) {
            int[] then = how.clone();
            for (int i = 0; i < how.length; i++) {
                if (how[i] == 1 && errands.get(i)[2] == at) {
                    then[i] = 2;
                }
            }
            if (how[one] == 0) {
                then[one] = 1;
            }
            return then;
        }
    }

    private int roundAs(State of, int[] carrier, int kind, int strength, List<Integer> set) {
        return Math.min(NOWHERE, new Way(of, kind, strength, set).toWalk(carrier[1], new int[set.size()]));
    }

    private int roundOf(int[] carrier, List<Integer> set) {
        return roundAs(s, carrier, carrier[0], carrier[2], set);
    }

    private static int orNone(int yards) {
        when(yards >= NOWHERE, Due.NONE);
        return yards;
    }

    private List<Integer> lying(int set) {
        List<Integer> all = members(set, 5);
        for (int e : all) {
            when(s.errands.get(e)[3] != 0, Due.STATE);
        }
        return all;
    }

    private List<Integer> forRound(int c, int set) {
        carrierRow(c);
        List<Integer> all = lying(set);
        when(!carried(s, c).isEmpty(), Due.STATE);
        return all;
    }

    // ---- the fair

    public int carrier(int kind) {
        beyondUnless(in(kind, 0, 6));
        when(s.carriers.size() == 6, Due.FULL);
        s.carriers.add(new int[] {kind, 0, 20, 0, 0});
        return s.carriers.size() - 1;
    }

    public int of(int c, int what) {
        int[] it = carrierRow(c);
        beyondUnless(in(what, 0, 7));
        if (what < 5) {
            return it[what];
        }
        if (what == 5) {
            return bears(it[0], it[2]);
        }
        int set = 0;
        for (int[] e : carried(s, c)) {
            set |= 1 << s.errands.indexOf(e);
        }
        return what == 6 ? set : load(s, c);
    }

    public int change(int c, int what, int v) {
        int[] it = carrierRow(c);
        beyondUnless(in(what, 0, 3));
        int[] least = {0, 0, 1, 0};
        int[] most = {6, 6, 99, 999999};
        beyondUnless(in(v, least[what], most[what]));
        int was = it[what];
        it[what] = v;
        return was;
    }

    public int way(int one, int other, int yards, int river) {
        place(one);
        place(other);
        beyondUnless(one != other && in(yards, 0, 99) && in(river, 0, 1));
        int was = s.yards[one][other];
        lay(s, one, other, yards, river);
        return was;
    }

    private static void lay(State of, int one, int other, int yards, int river) {
        of.yards[one][other] = yards;
        of.yards[other][one] = yards;
        of.river[one][other] = river;
        of.river[other][one] = river;
    }

    public int wayOf(int one, int other, int what) {
        place(one);
        place(other);
        beyondUnless(one != other && in(what, 0, 1));
        return (what == 0 ? s.yards : s.river)[one][other];
    }

    public int errand(int pounds, int from, int to) {
        beyondUnless(in(pounds, 1, 60));
        place(from);
        place(to);
        beyondUnless(from != to);
        when(s.errands.size() == 8, Due.FULL);
        s.errands.add(new int[] {pounds, from, to, 0, -1});
        return s.errands.size() - 1;
    }

    public int errandOf(int e, int what) {
        int[] it = errandRow(e);
        beyondUnless(in(what, 0, 5));
        when(what == 5 && worthOf(s, it) < 0, Due.NONE);
        return what == 5 ? worthOf(s, it) : it[what];
    }

    public int ware(int price) {
        beyondUnless(in(price, 1, 9999));
        when(s.wares.size() == 6, Due.FULL);
        s.wares.add(new int[] {price, -1});
        return s.wares.size() - 1;
    }

    public int wareOf(int w, int what) {
        int[] it = wareRow(w);
        beyondUnless(in(what, 0, 1));
        return it[what];
    }

    // ---- walking

    public int far(int c, int from, int to) {
        int[] it = carrierRow(c);
        place(from);
        place(to);
        return orNone(farFor(s, it[0], from, to));
    }

    public int first(int c, int to) {
        int[] it = carrierRow(c);
        place(to);
        int whole = orNone(farFor(s, it[0], it[1], to));
        for (int p = 0; p < 7 && to != it[1]; p++) {
            int yards = s.yards[it[1]][p];
            if (yards > 0 && counts(it[0], yards, s.river[it[1]][p]) + farFor(s, it[0], p, to) == whole) {
                return p;
            }
        }
        return to;
    }

    public int take(int c, int e) {
        int[] it = carrierRow(c);
        int[] what = errandRow(e);
        when(what[3] != 0 || what[1] != it[1], Due.STATE);
        when(load(s, c) + what[0] > bears(it[0], it[2]), Due.FULL);
        what[3] = 1;
        what[4] = c;
        return load(s, c);
    }

    public int drop(int c, int e) {
        int[] it = carrierRow(c);
        int[] what = errandRow(e);
        when(!carried(s, c).contains(what) || what[2] == it[1], Due.STATE);
        what[1] = it[1];
        what[3] = 0;
        what[4] = -1;
        return load(s, c);
    }

    public int walk(int c, int to) {
        carrierRow(c);
        place(to);
        return orNone(walkIn(s, c, to));
    }

    /** NOWHERE (and nothing is so) if there are no ways. */
    private int walkIn(State of, int c, int to) {
        int[] it = of.carriers.get(c);
        int yards = farFor(of, it[0], it[1], to);
        if (yards >= NOWHERE) {
            return NOWHERE;
        }
        it[4] += yards;
        it[1] = to;
        int before = it[3];
        for (int[] e : carried(of, c)) {
            if (e[2] == to) {
                e[3] = 2;
                it[3] += worthOf(of, e) < 0 ? 0 : getsFor(it[0], worthOf(of, e));
            }
        }
        return it[3] - before;
    }

    public int buy(int c, int w) {
        int[] it = carrierRow(c);
        int[] ware = wareRow(w);
        when(ware[1] >= 0 || it[3] < ware[0], Due.STATE);
        ware[1] = c;
        it[3] -= ware[0];
        return it[3];
    }

    public int now(int what) {
        beyondUnless(in(what, 0, 4));
        if (what > 2) {
            return ofAll(what);
        }
        int set = 0;
        for (int e = 0; e < s.errands.size() && what < 2; e++) {
            set |= s.errands.get(e)[3] == 2 * what ? 1 << e : 0;
        }
        for (int w = 0; w < s.wares.size() && what == 2; w++) {
            set |= s.wares.get(w)[1] >= 0 ? 1 << w : 0;
        }
        return set;
    }

    private int ofAll(int what) {
        int sum = 0;
        for (int[] c : s.carriers) {
            sum += c[what];
        }
        return sum;
    }

    // ---- rounds

    public int round(int c, int set) {
        List<Integer> all = forRound(c, set);
        return orNone(roundOf(s.carriers.get(c), all));
    }

    public int gets(int c, int set) {
        int[] it = carrierRow(c);
        int sum = 0;
        for (int e : members(set, 5)) {
            int worth = worthOf(s, s.errands.get(e));
            when(worth < 0, Due.NONE);
            sum += getsFor(it[0], worth);
        }
        return sum;
    }

    /** The yards of the best set, and this. */
    private int[] earning(int c, int w) {
        int[] it = carrierRow(c);
        int[] ware = wareRow(w);
        when(ware[1] >= 0 || !carried(s, c).isEmpty(), Due.STATE);
        int[] best = {NOWHERE, 0};
        for (int set = 0; set < 1 << s.errands.size(); set++) {
            if (Integer.bitCount(set) > 5 || (set & ~now(0)) != 0) {
                continue;
            }
            int sum = it[3];
            for (int e : members(set, 5)) {
                sum += Math.max(0, getsFor(it[0], worthOf(s, s.errands.get(e))));
            }
            int yards = sum >= ware[0] ? roundOf(it, members(set, 5)) : NOWHERE;
            if (yards < best[0]) {
                best = new int[] {yards, set};
            }
        }
        when(best[0] == NOWHERE, Due.NONE);
        return best;
    }

    public int cheapest(int c, int w) {
        return earning(c, w)[0];
    }

    public int which(int c, int w) {
        return earning(c, w)[1];
    }

    public int who(int set) {
        List<Integer> all = lying(set);
        int best = NOWHERE;
        int who = -1;
        for (int c = 0; c < s.carriers.size(); c++) {
            int yards = carried(s, c).isEmpty() ? roundOf(s.carriers.get(c), all) : NOWHERE;
            if (yards < best) {
                best = yards;
                who = c;
            }
        }
        when(who < 0, Due.NONE);
        return who;
    }

    public int joined(int c, int set) {
        List<Integer> all = forRound(c, set);
        int[] it = s.carriers.get(c);
        int together = orNone(roundOf(it, all));
        int alone = 0;
        for (int e : all) {
            alone += orNone(roundOf(it, List.of(e))) + orNone(farFor(s, it[0], s.errands.get(e)[2], it[1]));
        }
        return alone - together;
    }

    private int[] sharing(int one, int other, int set) {
        carrierRow(one);
        carrierRow(other);
        beyondUnless(one != other);
        members(set, 5);
        lying(set);
        when(!carried(s, one).isEmpty() || !carried(s, other).isEmpty(), Due.STATE);
        int[] best = {NOWHERE, 0};
        for (int part = 0; part <= set; part++) {
            if ((part & ~set) == 0) {
                int sum = roundOf(s.carriers.get(one), members(part, 5)) + roundOf(s.carriers.get(other), members(set & ~part, 5));
                if (sum < best[0]) {
                    best = new int[] {sum, part};
                }
            }
        }
        when(best[0] == NOWHERE, Due.NONE);
        return best;
    }

    public int shared(int one, int other, int set) {
        return sharing(one, other, set)[0];
    }

    public int part(int one, int other, int set) {
        return sharing(one, other, set)[1];
    }

    public int strength(int c, int set) {
        List<Integer> all = forRound(c, set);
        int[] it = s.carriers.get(c);
        for (int strong = 1; strong <= 99; strong++) {
            if (roundAs(s, it, it[0], strong, all) < NOWHERE) {
                return strong;
            }
        }
        throw new Finding(Due.NONE);
    }

    public int kindFor(int c, int set) {
        List<Integer> all = forRound(c, set);
        int[] it = s.carriers.get(c);
        int best = NOWHERE;
        int as = -1;
        for (int kind = 0; kind < 7; kind++) {
            int yards = roundAs(s, it, kind, it[2], all);
            if (yards < best) {
                best = yards;
                as = kind;
            }
        }
        when(as < 0, Due.NONE);
        return as;
    }

    // ---- ways, weights

    private int[] bridging(int c, int set) {
        List<Integer> all = forRound(c, set);
        int[] it = s.carriers.get(c);
        int[] best = {NOWHERE, 0};
        for (int a = 0; a < 7; a++) {
            for (int b = a + 1; b < 7; b++) {
                if (s.yards[a][b] > 0 && s.river[a][b] == 1) {
                    State then = s.copy();
                    lay(then, a, b, s.yards[a][b], 0);
                    int yards = roundAs(then, it, it[0], it[2], all);
                    best = yards < best[0] ? new int[] {yards, 10 * a + b} : best;
                }
            }
        }
        when(best[0] == NOWHERE, Due.NONE);
        return best;
    }

    public int bridge(int c, int set) {
        return bridging(c, set)[1];
    }

    public int worth(int c, int set) {
        int then = bridging(c, set)[0];
        return orNone(roundOf(s.carriers.get(c), forRound(c, set))) - then;
    }

    public int reach(int c) {
        int[] it = carrierRow(c);
        int set = 0;
        for (int p = 0; p < 7; p++) {
            set |= farFor(s, it[0], it[1], p) < NOWHERE ? 1 << p : 0;
        }
        return set;
    }

    public int middle(int c) {
        int[][] fars = farsFor(s, carrierRow(c)[0]);
        int best = NOWHERE;
        int middle = -1;
        for (int a = 0; a < 7; a++) {
            int farthest = hasWay(a) ? 0 : NOWHERE;
            for (int b = 0; b < 7; b++) {
                farthest = hasWay(b) ? Math.max(farthest, fars[a][b]) : farthest;
            }
            if (farthest < best) {
                best = farthest;
                middle = a;
            }
        }
        when(middle < 0, Due.NONE);
        return middle;
    }

    private boolean hasWay(int p) {
        for (int yards : s.yards[p]) {
            if (yards > 0) {
                return true;
            }
        }
        return false;
    }

    public int heavy(int c, int set) {
        int[] it = carrierRow(c);
        List<Integer> all = members(set, 8);
        int bears = bears(it[0], it[2]);
        int sum = 0;
        for (int e : all) {
            sum += s.errands.get(e)[0];
        }
        when(sum > bears, Due.STATE);
        int heavy = 0;
        for (int e : all) {
            int pounds = s.errands.get(e)[0];
            heavy |= sum - pounds + pounds * 3 / 2 > bears ? 1 << e : 0;
        }
        return heavy;
    }

    // ---- draws

    private int daysIn(State of, int n) {
        int done = 0;
        for (int i = 0; i < n; i++) {
            int c = draw(of) % of.carriers.size();
            takeUp(of, c);
            int carried = carried(of, c).size();
            int to = draw(of) % 7;
            walkIn(of, c, to);
            done += carried - carried(of, c).size();
        }
        return done;
    }

    private static int draw(State of) {
        of.z = of.z * 1103515245 + 12345;
        return of.z >>> 8;
    }

    private void takeUp(State of, int c) {
        int[] it = of.carriers.get(c);
        for (int[] e : of.errands) {
            if (e[3] == 0 && e[1] == it[1] && load(of, c) + e[0] <= bears(it[0], it[2])) {
                e[3] = 1;
                e[4] = c;
            }
        }
    }

    private void forDays(int n) {
        beyondUnless(in(n, 1, 12));
        when(s.carriers.isEmpty(), Due.STATE);
    }

    public int day(int n) {
        forDays(n);
        return daysIn(s, n);
    }

    public int ahead(int n) {
        forDays(n);
        return daysIn(s.copy(), n);
    }

    public int seed(int v) {
        int was = s.z;
        s.z = v;
        return was;
    }

    // ---- texts

    public int feed(int bytes, int n) {
        beyondUnless(in(n, 1, 4));
        when(tape.length() + n > 120, Due.FULL);
        for (int shift = 8 * (n - 1); shift >= 0; shift -= 8) {
            tape.append((char) (bytes >> shift & 255));
        }
        return tape.length();
    }

    public int wipe() {
        int was = tape.length();
        tape.setLength(0);
        return was;
    }

    public int text() {
        SecondText told = new SecondText(tape.toString(), s.carriers.size(), s.errands.size(), s.wares.size());
        tape.setLength(0);
        if (told.fault >= 0) {
            return -1 - told.fault;
        }
        for (int[] item : told.items) {
            switch (item[0]) {
                case 0: s.carriers.add(new int[] {item[1], item[2], item[3], 0, 0}); break;
                case 1: lay(s, item[1], item[2], item[3], item[4]); break;
                case 2: s.errands.add(new int[] {item[1], item[2], item[3], 0, -1}); break;
                default: s.wares.add(new int[] {item[1], -1}); break;
            }
        }
        return told.items.size();
    }

    // ---- spots, sheets

    public int hold(int spot, int c) {
        beyondUnless(in(spot, 0, 9) && in(c, -1, s.carriers.size() - 1));
        s.spots[spot] = c;
        return 1;
    }

    public int as(int spot, int kind) {
        beyondUnless(in(spot, 0, 9) && in(kind, 0, 6));
        int c = s.spots[spot];
        when(c < 0, Due.MISSING);
        when(!under(s.carriers.get(c)[0], kind), Due.KIND);
        return c;
    }

    public int sheet(int t, int b, int n) {
        beyondUnless(in(t, 0, 3) && (b == 0 || b == 8 || b == 16 || b == 32));
        when(n < 0, Due.SIZE);
        beyondUnless(n <= 40);
        bits[t] = b;
        sheets[t] = b == 0 ? null : new int[n];
        return b == 0 ? 0 : n;
    }

    private int[] sheetRow(int t) {
        beyondUnless(in(t, 0, 3));
        when(sheets[t] == null, Due.MISSING);
        return sheets[t];
    }

    public int write(int t, int i, int v) {
        int[] row = sheetRow(t);
        beyondUnless(in(i, 0, row.length - 1));
        row[i] = v << 32 - bits[t] >> 32 - bits[t];
        return 1;
    }

    public int copy(int one, int from, int other, int to, int n) {
        beyondUnless(in(one, 0, 3) && in(other, 0, 3));
        int[] a = sheetRow(one);
        int[] b = sheetRow(other);
        when(bits[one] != bits[other], Due.KIND);
        beyondUnless(from >= 0 && to >= 0 && n >= 0);
        beyondUnless((long) from + n <= a.length && (long) to + n <= b.length);
        int[] were = a.clone();
        for (int i = 0; i < n; i++) {
            b[to + i] = were[from + i];
        }
        return n;
    }

    public int load(int t) {
        int[] row = sheetRow(t);
        int came = 0;
        for (int price : row) {
            if (came == s.wares.size() || !in(price, 1, 9999)) {
                break;
            }
            s.wares.get(came++)[0] = price;
        }
        return came;
    }

    public int judge(int t, int c) {
        int[] row = sheetRow(t);
        carrierRow(c);
        State then = s.copy();
        int sum = 0;
        takeUp(then, c);
        for (int to : row) {
            when(!in(to, 0, 6), Due.NONE);
            sum += orNone(walkIn(then, c, to));
            takeUp(then, c);
        }
        return sum;
    }

    // ---- images

    public int image() {
        image = s.copy();
        return 1;
    }

    public int undo() {
        when(image == null, Due.NONE);
        s = image.copy();
        return s.errands.size();
    }

    public int tear() {
        int was = image == null ? 0 : 1;
        image = null;
        return was;
    }

    public int count(int what) {
        beyondUnless(in(what, 0, 7));
        int held = 0;
        for (int c : s.spots) {
            held += c < 0 ? 0 : 1;
        }
        int[] all = {s.carriers.size(), s.errands.size(), s.wares.size(), ofAll(3), ofAll(4), tape.length(), s.z, held};
        return all[what];
    }

    public int status(int which) {
        beyondUnless(in(which, -1, 6));
        int all = 0;
        for (int f : findings) {
            all += f;
        }
        return which < 0 ? all : findings[which];
    }
}
