/**
 * A fair where nothing is paid in coin: who buys must first carry something.
 * The numbered promises of the document are kept by the public methods.
 */
public final class CarryFair {
    private static final int LOW = -1000001;
    private static final int BEYOND = LOW;
    private static final int FULL = LOW - 1;
    private static final int KIND = LOW - 2;
    private static final int NONE = LOW - 3;
    private static final int STATE = LOW - 4;
    private static final int MISSING = LOW - 5;
    private static final int SIZE = LOW - 6;
    private static final int FINDINGS = 7;

    private static final int PLACES = 7;
    private static final int PAIRS = PLACES * PLACES;
    private static final int MOST_YARDS = 99;
    private static final int MOST_CARRIERS = 6;
    private static final int MOST_STRENGTH = 99;
    private static final int FIRST_STRENGTH = 20;
    private static final int MOST_EARNED = 999999;
    private static final int MOST_ERRANDS = 8;
    private static final int MOST_POUNDS = 60;
    private static final int MOST_WARES = 6;
    private static final int MOST_PRICE = 9999;
    private static final int MOST_JOINED = 5;
    private static final int MOST_TURNS = 12;
    private static final int SPOTS = 10;
    private static final int SHEETS = 4;
    private static final int MOST_NUMBERS = 40;
    private static final int MOST_BYTES = 120;
    private static final int NOBODY = -1;

    /** More yards, or more pound yards of one errand, than there can be: there are no ways. */
    private static final int NOWHERE = 1000000;
    /** Yards times this and a set (or a way, a kind, a carrier): the least of such is the first of the shortest. */
    private static final int SPAN = 256;

    private final Fair fair = new Fair();
    private final Fair kept = new Fair();
    private final Fair trial = new Fair();
    private final Rounds rounds = new Rounds();
    private final int[] firstParts = new int[SPAN];
    private final Tape tape = new Tape();
    private final Sheet[] sheets = new Sheet[SHEETS];
    private final int[] findings = new int[FINDINGS];
    private boolean isKept;

    public CarryFair() {
        for (int i = 0; i < SHEETS; i++) {
            sheets[i] = new Sheet();
        }
    }

    // ---- the fair

    public int carrier(int kind) {
        if (!within(kind, 0, Kinds.LAST)) {
            return finding(BEYOND);
        }
        if (fair.carrierCount >= MOST_CARRIERS) {
            return finding(FULL);
        }
        return fair.addCarrier(kind, 0, FIRST_STRENGTH);
    }

    public int of(int carrier, int what) {
        if (!fair.hasCarrier(carrier)) {
            return finding(BEYOND);
        }
        Carrier it = fair.carriers[carrier];
        switch (what) {
            case 0: return it.kind;
            case 1: return it.place;
            case 2: return it.strength;
            case 3: return it.earned;
            case 4: return it.walked;
            case 5: return it.canBear();
            case 6: return fair.carriedBy(carrier);
            case 7: return fair.weightOf(fair.carriedBy(carrier));
            default: return finding(BEYOND);
        }
    }

    public int change(int carrier, int what, int v) {
        if (!fair.hasCarrier(carrier) || !isChange(what, v)) {
            return finding(BEYOND);
        }
        Carrier it = fair.carriers[carrier];
        int before;
        if (what == 0) {
            before = it.kind;
            it.kind = v;
        } else if (what == 1) {
            before = it.place;
            it.place = v;
        } else if (what == 2) {
            before = it.strength;
            it.strength = v;
        } else {
            before = it.earned;
            it.earned = v;
        }
        return before;
    }

    public int way(int one, int other, int yards, int river) {
        if (!areUnlikePlaces(one, other) || !within(yards, 0, MOST_YARDS) || !within(river, 0, 1)) {
            return finding(BEYOND);
        }
        int before = fair.ways.yardsOf(one, other);
        fair.ways.lay(one, other, yards, river);
        fair.ways.measure();
        return before;
    }

    public int wayOf(int one, int other, int what) {
        if (!areUnlikePlaces(one, other) || !within(what, 0, 1)) {
            return finding(BEYOND);
        }
        return what == 0 ? fair.ways.yardsOf(one, other) : fair.ways.riverOf(one, other);
    }

    public int errand(int pounds, int from, int to) {
        if (!within(pounds, 1, MOST_POUNDS) || !areUnlikePlaces(from, to)) {
            return finding(BEYOND);
        }
        if (fair.errandCount >= MOST_ERRANDS) {
            return finding(FULL);
        }
        return fair.addErrand(pounds, from, to);
    }

    public int errandOf(int errand, int what) {
        if (!fair.hasErrand(errand)) {
            return finding(BEYOND);
        }
        Errand it = fair.errands[errand];
        switch (what) {
            case 0: return it.pounds;
            case 1: return it.from;
            case 2: return it.to;
            case 3: return it.how;
            case 4: return it.whom;
            case 5: return orNone(fair.worthOf(errand));
            default: return finding(BEYOND);
        }
    }

    public int ware(int price) {
        if (!within(price, 1, MOST_PRICE)) {
            return finding(BEYOND);
        }
        if (fair.wareCount >= MOST_WARES) {
            return finding(FULL);
        }
        return fair.addWare(price);
    }

    public int wareOf(int ware, int what) {
        if (!fair.hasWare(ware) || !within(what, 0, 1)) {
            return finding(BEYOND);
        }
        return what == 0 ? fair.wares[ware].price : fair.wares[ware].soldTo;
    }

    // ---- walking

    public int far(int carrier, int from, int to) {
        if (!fair.hasCarrier(carrier) || !isPlace(from) || !isPlace(to)) {
            return finding(BEYOND);
        }
        return orNone(fair.ways.yardsFor(fair.carriers[carrier].kind, from, to));
    }

    public int first(int carrier, int to) {
        if (!fair.hasCarrier(carrier) || !isPlace(to)) {
            return finding(BEYOND);
        }
        Carrier it = fair.carriers[carrier];
        if (fair.ways.yardsFor(it.kind, it.place, to) >= NOWHERE) {
            return finding(NONE);
        }
        return fair.ways.nextPlace(it.kind, it.place, to);
    }

    public int take(int carrier, int errand) {
        if (!fair.hasCarrier(carrier) || !fair.hasErrand(errand)) {
            return finding(BEYOND);
        }
        if (!fair.liesBy(errand, carrier)) {
            return finding(STATE);
        }
        if (!fair.couldAdd(carrier, errand)) {
            return finding(FULL);
        }
        fair.pickUp(carrier, errand);
        return fair.weightOf(fair.carriedBy(carrier));
    }

    public int drop(int carrier, int errand) {
        if (!fair.hasCarrier(carrier) || !fair.hasErrand(errand)) {
            return finding(BEYOND);
        }
        Errand it = fair.errands[errand];
        int place = fair.carriers[carrier].place;
        if (it.how != Errand.CARRIED || it.whom != carrier || it.to == place) {
            return finding(STATE);
        }
        it.how = Errand.LIES;
        it.whom = NOBODY;
        it.from = place;
        return fair.weightOf(fair.carriedBy(carrier));
    }

    public int walk(int carrier, int to) {
        if (!fair.hasCarrier(carrier) || !isPlace(to)) {
            return finding(BEYOND);
        }
        if (fair.yardsTo(carrier, to) >= NOWHERE) {
            return finding(NONE);
        }
        return fair.go(carrier, to);
    }

    public int buy(int carrier, int ware) {
        if (!fair.hasCarrier(carrier) || !fair.hasWare(ware)) {
            return finding(BEYOND);
        }
        Carrier buyer = fair.carriers[carrier];
        Ware it = fair.wares[ware];
        if (it.soldTo != NOBODY || buyer.earned < it.price) {
            return finding(STATE);
        }
        it.soldTo = carrier;
        buyer.earned -= it.price;
        return buyer.earned;
    }

    public int now(int what) {
        switch (what) {
            case 0: return fair.errandsThat(Errand.LIES);
            case 1: return fair.errandsThat(Errand.DONE);
            case 2: return fair.soldWares();
            case 3: return fair.earnedByAll();
            case 4: return fair.walkedByAll();
            default: return finding(BEYOND);
        }
    }

    // ---- rounds (nothing changes)

    public int round(int carrier, int set) {
        int lack = roundLack(carrier, set);
        if (lack != 0) {
            return finding(lack);
        }
        return orNone(yardsOfRound(fair, carrier, set));
    }

    public int gets(int carrier, int set) {
        if (!fair.hasCarrier(carrier) || !isFewErrands(set)) {
            return finding(BEYOND);
        }
        for (int e = 0; e < fair.errandCount; e++) {
            if (has(set, e) && fair.worthOf(e) >= NOWHERE) {
                return finding(NONE);
            }
        }
        return fair.payOf(carrier, set);
    }

    public int cheapest(int carrier, int ware) {
        int lack = buyingLack(carrier, ware);
        if (lack != 0) {
            return finding(lack);
        }
        return orNone(shortestEarning(carrier, ware) / SPAN);
    }

    public int which(int carrier, int ware) {
        int lack = buyingLack(carrier, ware);
        if (lack != 0) {
            return finding(lack);
        }
        return secondOrNone(shortestEarning(carrier, ware));
    }

    public int who(int set) {
        if (!isFewErrands(set)) {
            return finding(BEYOND);
        }
        if (!fair.allLie(set)) {
            return finding(STATE);
        }
        int best = NOWHERE * SPAN;
        for (int c = 0; c < fair.carrierCount; c++) {
            if (fair.carriedBy(c) == 0) {
                best = Math.min(best, yardsOfRound(fair, c, set) * SPAN + c);
            }
        }
        return secondOrNone(best);
    }

    public int joined(int carrier, int set) {
        int lack = roundLack(carrier, set);
        if (lack != 0) {
            return finding(lack);
        }
        int together = yardsOfRound(fair, carrier, set);
        if (together >= NOWHERE) {
            return finding(NONE);
        }
        int alone = 0;
        for (int e = 0; e < fair.errandCount; e++) {
            if (has(set, e)) {
                // the ways lead back as far as they lead there
                alone += rounds.yardsOfPart(1 << e) + fair.yardsTo(carrier, fair.errands[e].to);
            }
        }
        return alone - together;
    }

    public int shared(int one, int other, int set) {
        int lack = sharingLack(one, other, set);
        if (lack != 0) {
            return finding(lack);
        }
        return orNone(shortestShare(one, other, set) / SPAN);
    }

    public int part(int one, int other, int set) {
        int lack = sharingLack(one, other, set);
        if (lack != 0) {
            return finding(lack);
        }
        return secondOrNone(shortestShare(one, other, set));
    }

    public int strength(int carrier, int set) {
        int lack = roundLack(carrier, set);
        if (lack != 0) {
            return finding(lack);
        }
        if (!fair.canComeToAll(carrier, set)) {
            return finding(NONE);
        }
        // who bears each alone can do them one by one
        int heaviest = fair.heaviestOf(set);
        for (int s = 1; s <= MOST_STRENGTH; s++) {
            if (Kinds.canBear(fair.carriers[carrier].kind, s) >= heaviest) {
                return s;
            }
        }
        return finding(NONE);
    }

    public int kindFor(int carrier, int set) {
        int lack = roundLack(carrier, set);
        if (lack != 0) {
            return finding(lack);
        }
        int best = NOWHERE * SPAN;
        for (int kind = 0; kind <= Kinds.LAST; kind++) {
            rounds.find(fair, carrier, kind, set);
            best = Math.min(best, rounds.yardsOfPart(set) * SPAN + kind);
        }
        return secondOrNone(best);
    }

    // ---- ways, weights

    public int bridge(int carrier, int set) {
        int lack = roundLack(carrier, set);
        if (lack != 0) {
            return finding(lack);
        }
        return secondOrNone(shortestByBridge(carrier, set));
    }

    public int worth(int carrier, int set) {
        int lack = roundLack(carrier, set);
        if (lack != 0) {
            return finding(lack);
        }
        int then = shortestByBridge(carrier, set) / SPAN;
        int before = yardsOfRound(fair, carrier, set);
        if (then >= NOWHERE || before >= NOWHERE) {
            return finding(NONE);
        }
        return before - then;
    }

    public int reach(int carrier) {
        if (!fair.hasCarrier(carrier)) {
            return finding(BEYOND);
        }
        int set = 0;
        for (int p = 0; p < PLACES; p++) {
            if (fair.yardsTo(carrier, p) < NOWHERE) {
                set |= 1 << p;
            }
        }
        return set;
    }

    public int middle(int carrier) {
        if (!fair.hasCarrier(carrier)) {
            return finding(BEYOND);
        }
        int best = NOWHERE * SPAN;
        for (int p = 0; p < PLACES; p++) {
            if (fair.ways.hasAny(p)) {
                best = Math.min(best, fair.ways.farthest(fair.carriers[carrier].kind, p) * SPAN + p);
            }
        }
        return secondOrNone(best);
    }

    public int heavy(int carrier, int set) {
        if (!fair.hasCarrier(carrier) || !areErrands(set)) {
            return finding(BEYOND);
        }
        int room = fair.carriers[carrier].canBear() - fair.weightOf(set);
        if (room < 0) {
            return finding(STATE);
        }
        int heavy = 0;
        for (int e = 0; e < fair.errandCount; e++) {
            if (has(set, e) && fair.errands[e].pounds / 2 > room) {
                heavy |= 1 << e;
            }
        }
        return heavy;
    }

    // ---- draws

    public int day(int n) {
        int lack = dayLack(n);
        return lack != 0 ? finding(lack) : fair.turns(n);
    }

    public int ahead(int n) {
        int lack = dayLack(n);
        if (lack != 0) {
            return finding(lack);
        }
        trial.become(fair);
        return trial.turns(n);
    }

    public int seed(int v) {
        int before = fair.z;
        fair.z = v;
        return before;
    }

    // ---- texts

    public int feed(int bytes, int n) {
        if (!within(n, 1, 4)) {
            return finding(BEYOND);
        }
        if (tape.length + n > MOST_BYTES) {
            return finding(FULL);
        }
        for (int i = n - 1; i >= 0; i--) {
            tape.add((bytes >>> (8 * i)) & 255);
        }
        return tape.length;
    }

    public int wipe() {
        int before = tape.length;
        tape.length = 0;
        return before;
    }

    public int text() {
        // told to a trial first: with a fault nothing changes
        trial.become(fair);
        int items = tape.tellTo(trial);
        tape.length = 0;
        if (items > 0) {
            fair.become(trial);
        }
        return items;
    }

    // ---- spots, sheets

    public int hold(int spot, int carrier) {
        if (!within(spot, 0, SPOTS - 1) || (carrier != NOBODY && !fair.hasCarrier(carrier))) {
            return finding(BEYOND);
        }
        fair.spots[spot] = carrier;
        return 1;
    }

    public int as(int spot, int kind) {
        if (!within(spot, 0, SPOTS - 1) || !within(kind, 0, Kinds.LAST)) {
            return finding(BEYOND);
        }
        int carrier = fair.spots[spot];
        if (!fair.hasCarrier(carrier)) {
            return finding(MISSING);
        }
        return Kinds.isUnder(fair.carriers[carrier].kind, kind) ? carrier : finding(KIND);
    }

    public int sheet(int s, int bits, int n) {
        if (!isSheet(s) || (bits != 0 && bits != 8 && bits != 16 && bits != 32)) {
            return finding(BEYOND);
        }
        if (n < 0) {
            return finding(SIZE);
        }
        if (n > MOST_NUMBERS) {
            return finding(BEYOND);
        }
        sheets[s].begin(bits, n);
        return sheets[s].length;
    }

    public int write(int s, int i, int v) {
        if (!isSheet(s)) {
            return finding(BEYOND);
        }
        if (sheets[s].isMissing()) {
            return finding(MISSING);
        }
        if (!within(i, 0, sheets[s].length - 1)) {
            return finding(BEYOND);
        }
        sheets[s].put(i, v);
        return 1;
    }

    public int copy(int s, int from, int t, int to, int n) {
        if (!isSheet(s) || !isSheet(t)) {
            return finding(BEYOND);
        }
        if (sheets[s].isMissing() || sheets[t].isMissing()) {
            return finding(MISSING);
        }
        if (sheets[s].bits != sheets[t].bits) {
            return finding(KIND);
        }
        if (!sheets[s].hasFrom(from, n) || !sheets[t].hasFrom(to, n)) {
            return finding(BEYOND);
        }
        System.arraycopy(sheets[s].numbers, from, sheets[t].numbers, to, n);
        return n;
    }

    public int load(int s) {
        if (!isSheet(s)) {
            return finding(BEYOND);
        }
        if (sheets[s].isMissing()) {
            return finding(MISSING);
        }
        int came = 0;
        int most = Math.min(sheets[s].length, fair.wareCount);
        while (came < most && within(sheets[s].numbers[came], 1, MOST_PRICE)) {
            fair.wares[came].price = sheets[s].numbers[came];
            came++;
        }
        return came;
    }

    public int judge(int s, int carrier) {
        if (!isSheet(s)) {
            return finding(BEYOND);
        }
        if (sheets[s].isMissing()) {
            return finding(MISSING);
        }
        if (!fair.hasCarrier(carrier)) {
            return finding(BEYOND);
        }
        trial.become(fair);
        trial.takeUpAll(carrier);
        int gets = 0;
        for (int i = 0; i < sheets[s].length; i++) {
            int to = sheets[s].numbers[i];
            if (!isPlace(to) || trial.yardsTo(carrier, to) >= NOWHERE) {
                return finding(NONE);
            }
            gets += trial.go(carrier, to);
            trial.takeUpAll(carrier);
        }
        return gets;
    }

    // ---- images

    public int image() {
        kept.become(fair);
        isKept = true;
        return 1;
    }

    public int undo() {
        if (!isKept) {
            return finding(NONE);
        }
        fair.become(kept);
        return fair.errandCount;
    }

    public int tear() {
        int was = isKept ? 1 : 0;
        isKept = false;
        return was;
    }

    public int count(int what) {
        switch (what) {
            case 0: return fair.carrierCount;
            case 1: return fair.errandCount;
            case 2: return fair.wareCount;
            case 3: return fair.earnedByAll();
            case 4: return fair.walkedByAll();
            case 5: return tape.length;
            case 6: return fair.z;
            case 7: return fair.heldSpots();
            default: return finding(BEYOND);
        }
    }

    public int status(int which) {
        if (!within(which, -1, FINDINGS - 1)) {
            return finding(BEYOND);
        }
        if (which >= 0) {
            return findings[which];
        }
        int all = 0;
        for (int i = 0; i < FINDINGS; i++) {
            all += findings[i];
        }
        return all;
    }

    // ---- what the calls ask

    /** Counts a finding that an act answers. Only here are they counted: z may look like one. */
    private int finding(int which) {
        int i = LOW - which;
        if (within(i, 0, FINDINGS - 1)) {
            findings[i]++;
        }
        return which;
    }

    private int orNone(int yards) {
        return yards >= NOWHERE ? finding(NONE) : yards;
    }

    /** What stands behind the yards of a best, if there are yards. */
    private int secondOrNone(int best) {
        return best / SPAN >= NOWHERE ? finding(NONE) : best % SPAN;
    }

    private static boolean within(int v, int least, int most) {
        return v >= least && v <= most;
    }

    private static boolean has(int set, int member) {
        return (set >> member & 1) != 0;
    }

    private static boolean isPlace(int p) {
        return within(p, 0, PLACES - 1);
    }

    private static boolean areUnlikePlaces(int one, int other) {
        return isPlace(one) && isPlace(other) && one != other;
    }

    private static boolean isSheet(int s) {
        return within(s, 0, SHEETS - 1);
    }

    private static boolean isChange(int what, int v) {
        switch (what) {
            case 0: return within(v, 0, Kinds.LAST);
            case 1: return isPlace(v);
            case 2: return within(v, 1, MOST_STRENGTH);
            case 3: return within(v, 0, MOST_EARNED);
            default: return false;
        }
    }

    private boolean areErrands(int set) {
        return within(set, 0, (1 << fair.errandCount) - 1);
    }

    private boolean isFewErrands(int set) {
        return areErrands(set) && Integer.bitCount(set) <= MOST_JOINED;
    }

    /** The finding of a call about a carrier's round of a set, or 0. */
    private int roundLack(int carrier, int set) {
        if (!fair.hasCarrier(carrier) || !isFewErrands(set)) {
            return BEYOND;
        }
        return fair.allLie(set) && fair.carriedBy(carrier) == 0 ? 0 : STATE;
    }

    private int buyingLack(int carrier, int ware) {
        if (!fair.hasCarrier(carrier) || !fair.hasWare(ware)) {
            return BEYOND;
        }
        return fair.wares[ware].soldTo == NOBODY && fair.carriedBy(carrier) == 0 ? 0 : STATE;
    }

    private int sharingLack(int one, int other, int set) {
        if (one == other || !fair.hasCarrier(other)) {
            return BEYOND;
        }
        int lack = roundLack(one, set);
        if (lack != 0) {
            return lack;
        }
        return fair.carriedBy(other) == 0 ? 0 : STATE;
    }

    private int dayLack(int n) {
        if (!within(n, 1, MOST_TURNS)) {
            return BEYOND;
        }
        return fair.carrierCount > 0 ? 0 : STATE;
    }

    /** A carrier's round of a set; the rounds of its parts stand in rounds then. */
    private int yardsOfRound(Fair where, int carrier, int set) {
        rounds.find(where, carrier, where.carriers[carrier].kind, set);
        return rounds.yardsOfPart(set);
    }

    /** The shortest round by which a carrier would have a ware's price, times SPAN, and its set. */
    private int shortestEarning(int carrier, int ware) {
        int need = fair.wares[ware].price - fair.carriers[carrier].earned;
        int able = fair.ableSet(carrier);
        int best = NOWHERE * SPAN;
        for (int set = 0; set <= able; set++) {
            if ((set & ~able) == 0 && Integer.bitCount(set) <= MOST_JOINED && fair.paysJust(carrier, set, need)) {
                best = Math.min(best, yardsOfRound(fair, carrier, set) * SPAN + set);
            }
        }
        return best;
    }

    /** The least sum of two carriers' rounds that share a set, times SPAN, and the first one's part. */
    private int shortestShare(int one, int other, int set) {
        rounds.find(fair, one, fair.carriers[one].kind, set);
        for (int p = 0; p <= set; p++) {
            if ((p & ~set) == 0) {
                firstParts[p] = rounds.yardsOfPart(p);
            }
        }
        rounds.find(fair, other, fair.carriers[other].kind, set);
        int best = NOWHERE * SPAN;
        for (int p = 0; p <= set; p++) {
            if ((p & ~set) == 0) {
                best = Math.min(best, (firstParts[p] + rounds.yardsOfPart(set & ~p)) * SPAN + p);
            }
        }
        return best;
    }

    /** The shortest round with one river way by land, times SPAN, and this way (10 times a place, and a place). */
    private int shortestByBridge(int carrier, int set) {
        trial.become(fair);
        int best = NOWHERE * SPAN;
        for (int a = 0; a < PLACES; a++) {
            for (int b = a + 1; b < PLACES; b++) {
                int yards = fair.ways.yardsOf(a, b);
                if (yards > 0 && fair.ways.riverOf(a, b) == 1) {
                    trial.ways.lay(a, b, yards, 0);
                    trial.ways.measure();
                    best = Math.min(best, yardsOfRound(trial, carrier, set) * SPAN + 10 * a + b);
                    trial.ways.lay(a, b, yards, 1);
                }
            }
        }
        return best;
    }

    /** What carriers of a kind can; a kind that is not named does as the one above it. */
    private static final class Kinds {
        static final int CARRIER = 0;
        static final int OLD = 1;
        static final int PAIRED = 2;
        static final int CHEATING = 3;
        static final int HANDED = 4;
        static final int WATERY = 5;
        static final int BOATED = 6;
        static final int LAST = 6;
        private static final int[] ABOVE = {-1, CARRIER, CARRIER, OLD, PAIRED, CARRIER, WATERY};

        /** How yards are counted: all kinds of one gait count alike. */
        static final int ON_FOOT = 0;
        static final int SWIMMING = 1;
        static final int ROWING = 2;
        static final int GAITS = 3;
        static final int[] GAIT_OF = {ON_FOOT, ON_FOOT, ON_FOOT, ON_FOOT, ON_FOOT, SWIMMING, ROWING};

        /** Whether one kind is another one or under it. */
        static boolean isUnder(int kind, int other) {
            int k = kind;
            for (int i = 0; i <= LAST && k >= 0 && k <= LAST; i++) {
                if (k == other) {
                    return true;
                }
                k = ABOVE[k];
            }
            return false;
        }

        static int canBear(int kind, int strength) {
            switch (kind) {
                case OLD:
                case CHEATING: return strength / 2;
                case PAIRED:
                case HANDED: return 2 * strength;
                default: return strength;
            }
        }

        static int yardsAt(int gait, int yards, int river) {
            if (river == 0 || gait == SWIMMING) {
                return yards;
            }
            return gait == ROWING ? Math.max(1, yards / 2) : 2 * yards;
        }

        static int payFor(int kind, int worth) {
            switch (kind) {
                case PAIRED: return worth / 2;
                case HANDED: return worth / 2 + 1;
                case CHEATING: return worth + worth / 10;
                default: return worth;
            }
        }
    }

    private static final class Carrier {
        int kind;
        int place;
        int strength;
        int earned;
        int walked;

        int canBear() {
            return Kinds.canBear(kind, strength);
        }

        void become(Carrier other) {
            kind = other.kind;
            place = other.place;
            strength = other.strength;
            earned = other.earned;
            walked = other.walked;
        }
    }

    private static final class Errand {
        static final int LIES = 0;
        static final int CARRIED = 1;
        static final int DONE = 2;
        int pounds;
        int from;
        int to;
        int how;
        int whom;

        void become(Errand other) {
            pounds = other.pounds;
            from = other.from;
            to = other.to;
            how = other.how;
            whom = other.whom;
        }
    }

    private static final class Ware {
        int price;
        int soldTo;
    }

    /** The ways, and for each gait the fewest yards between all places. */
    private static final class Ways {
        private final int[] yards = new int[PAIRS];
        private final int[] rivers = new int[PAIRS];
        private final int[][] tables = new int[Kinds.GAITS][PAIRS];

        Ways() {
            measure();
        }

        int yardsOf(int one, int other) {
            return yards[one * PLACES + other];
        }

        int riverOf(int one, int other) {
            return rivers[one * PLACES + other];
        }

        /** Who has laid ways must measure() before more is asked. */
        void lay(int one, int other, int length, int river) {
            yards[one * PLACES + other] = length;
            yards[other * PLACES + one] = length;
            rivers[one * PLACES + other] = river;
            rivers[other * PLACES + one] = river;
        }

        void measure() {
            for (int gait = 0; gait < Kinds.GAITS; gait++) {
                measureFor(gait);
            }
        }

        void become(Ways other) {
            System.arraycopy(other.yards, 0, yards, 0, PAIRS);
            System.arraycopy(other.rivers, 0, rivers, 0, PAIRS);
            for (int gait = 0; gait < Kinds.GAITS; gait++) {
                System.arraycopy(other.tables[gait], 0, tables[gait], 0, PAIRS);
            }
        }

        boolean hasAny(int place) {
            for (int p = 0; p < PLACES; p++) {
                if (yardsOf(place, p) > 0) {
                    return true;
                }
            }
            return false;
        }

        int yardsFor(int kind, int from, int to) {
            return tables[Kinds.GAIT_OF[kind]][from * PLACES + to];
        }

        /** How far the farthest of the places with ways is from one: NOWHERE if it can't be come to. */
        int farthest(int kind, int from) {
            int most = 0;
            for (int p = 0; p < PLACES; p++) {
                if (hasAny(p)) {
                    most = Math.max(most, yardsFor(kind, from, p));
                }
            }
            return most;
        }

        /** The least of the places that come first on the shortest rows; there must be one. */
        int nextPlace(int kind, int from, int to) {
            int whole = yardsFor(kind, from, to);
            for (int p = 0; p < PLACES && from != to; p++) {
                int step = stepAt(Kinds.GAIT_OF[kind], from * PLACES + p);
                if (step < NOWHERE && step + yardsFor(kind, p, to) == whole) {
                    return p;
                }
            }
            return from;
        }

        int[] tableFor(int kind) {
            return tables[Kinds.GAIT_OF[kind]];
        }

        private int stepAt(int gait, int pair) {
            return yards[pair] == 0 ? NOWHERE : Kinds.yardsAt(gait, yards[pair], rivers[pair]);
        }

        private void measureFor(int gait) {
            int[] table = tables[gait];
            for (int i = 0; i < PAIRS; i++) {
                table[i] = i / PLACES == i % PLACES ? 0 : stepAt(gait, i);
            }
            for (int via = 0; via < PLACES; via++) {
                for (int from = 0; from < PLACES; from++) {
                    int there = table[from * PLACES + via];
                    for (int to = 0; to < PLACES && there < NOWHERE; to++) {
                        int whole = there + table[via * PLACES + to];
                        if (whole < table[from * PLACES + to]) {
                            table[from * PLACES + to] = whole;
                        }
                    }
                }
            }
        }
    }

    /** All that an image keeps. */
    private static final class Fair {
        final Carrier[] carriers = new Carrier[MOST_CARRIERS];
        final Errand[] errands = new Errand[MOST_ERRANDS];
        final Ware[] wares = new Ware[MOST_WARES];
        final Ways ways = new Ways();
        final int[] spots = new int[SPOTS];
        int carrierCount;
        int errandCount;
        int wareCount;
        int z = 1;

        Fair() {
            for (int i = 0; i < MOST_CARRIERS; i++) {
                carriers[i] = new Carrier();
            }
            for (int i = 0; i < MOST_ERRANDS; i++) {
                errands[i] = new Errand();
            }
            for (int i = 0; i < MOST_WARES; i++) {
                wares[i] = new Ware();
            }
            for (int i = 0; i < SPOTS; i++) {
                spots[i] = NOBODY;
            }
        }

        void become(Fair other) {
            carrierCount = other.carrierCount;
            errandCount = other.errandCount;
            wareCount = other.wareCount;
            z = other.z;
            for (int i = 0; i < carrierCount; i++) {
                carriers[i].become(other.carriers[i]);
            }
            for (int i = 0; i < errandCount; i++) {
                errands[i].become(other.errands[i]);
            }
            for (int i = 0; i < wareCount; i++) {
                wares[i].price = other.wares[i].price;
                wares[i].soldTo = other.wares[i].soldTo;
            }
            ways.become(other.ways);
            System.arraycopy(other.spots, 0, spots, 0, SPOTS);
        }

        boolean hasCarrier(int c) {
            return within(c, 0, carrierCount - 1);
        }

        boolean hasErrand(int e) {
            return within(e, 0, errandCount - 1);
        }

        boolean hasWare(int w) {
            return within(w, 0, wareCount - 1);
        }

        /** There must be room for it, as in the next two. */
        int addCarrier(int kind, int place, int strength) {
            Carrier it = carriers[carrierCount];
            it.kind = kind;
            it.place = place;
            it.strength = strength;
            it.earned = 0;
            it.walked = 0;
            return carrierCount++;
        }

        int addErrand(int pounds, int from, int to) {
            Errand it = errands[errandCount];
            it.pounds = pounds;
            it.from = from;
            it.to = to;
            it.how = Errand.LIES;
            it.whom = NOBODY;
            return errandCount++;
        }

        int addWare(int price) {
            wares[wareCount].price = price;
            wares[wareCount].soldTo = NOBODY;
            return wareCount++;
        }

        int errandsThat(int how) {
            int set = 0;
            for (int e = 0; e < errandCount; e++) {
                if (errands[e].how == how) {
                    set |= 1 << e;
                }
            }
            return set;
        }

        boolean allLie(int set) {
            return (set & ~errandsThat(Errand.LIES)) == 0;
        }

        int carriedBy(int carrier) {
            int set = 0;
            for (int e = 0; e < errandCount; e++) {
                if (errands[e].how == Errand.CARRIED && errands[e].whom == carrier) {
                    set |= 1 << e;
                }
            }
            return set;
        }

        int weightOf(int set) {
            int pounds = 0;
            for (int e = 0; e < errandCount; e++) {
                if (has(set, e)) {
                    pounds += errands[e].pounds;
                }
            }
            return pounds;
        }

        int heaviestOf(int set) {
            int pounds = 0;
            for (int e = 0; e < errandCount; e++) {
                if (has(set, e)) {
                    pounds = Math.max(pounds, errands[e].pounds);
                }
            }
            return pounds;
        }

        int soldWares() {
            int set = 0;
            for (int w = 0; w < wareCount; w++) {
                if (wares[w].soldTo != NOBODY) {
                    set |= 1 << w;
                }
            }
            return set;
        }

        int earnedByAll() {
            int sum = 0;
            for (int c = 0; c < carrierCount; c++) {
                sum += carriers[c].earned;
            }
            return sum;
        }

        int walkedByAll() {
            int sum = 0;
            for (int c = 0; c < carrierCount; c++) {
                sum += carriers[c].walked;
            }
            return sum;
        }

        int heldSpots() {
            int held = 0;
            for (int i = 0; i < SPOTS; i++) {
                if (spots[i] != NOBODY) {
                    held++;
                }
            }
            return held;
        }

        /** NOWHERE if there are no ways. */
        int worthOf(int errand) {
            Errand it = errands[errand];
            int yards = ways.yardsFor(Kinds.CARRIER, it.from, it.to);
            return yards >= NOWHERE ? NOWHERE : it.pounds * yards;
        }

        /** Nothing if there are no ways. */
        int payFor(int carrier, int errand) {
            int worth = worthOf(errand);
            return worth >= NOWHERE ? 0 : Kinds.payFor(carriers[carrier].kind, worth);
        }

        int payOf(int carrier, int set) {
            int pay = 0;
            for (int e = 0; e < errandCount; e++) {
                if (has(set, e)) {
                    pay += payFor(carrier, e);
                }
            }
            return pay;
        }

        /**
         * Whether a set pays enough, and would not without the one that pays least.
         * A set that would has a part with a round as short and a lesser number.
         */
        boolean paysJust(int carrier, int set, int need) {
            if (need <= 0) {
                return set == 0;
            }
            int all = 0;
            int least = NOWHERE;
            for (int e = 0; e < errandCount; e++) {
                if (has(set, e)) {
                    int pay = payFor(carrier, e);
                    all += pay;
                    least = Math.min(least, pay);
                }
            }
            return all >= need && all - least < need;
        }

        int yardsTo(int carrier, int to) {
            return ways.yardsFor(carriers[carrier].kind, carriers[carrier].place, to);
        }

        boolean canComeToAll(int carrier, int set) {
            for (int e = 0; e < errandCount; e++) {
                if (has(set, e) && !canComeToBoth(carrier, e)) {
                    return false;
                }
            }
            return true;
        }

        private boolean canComeToBoth(int carrier, int errand) {
            return yardsTo(carrier, errands[errand].from) < NOWHERE && yardsTo(carrier, errands[errand].to) < NOWHERE;
        }

        /** The errands that lie and that a carrier could do, each alone (and so one by one). */
        int ableSet(int carrier) {
            int set = 0;
            for (int e = 0; e < errandCount; e++) {
                Errand it = errands[e];
                if (it.how == Errand.LIES && it.pounds <= carriers[carrier].canBear() && canComeToBoth(carrier, e)) {
                    set |= 1 << e;
                }
            }
            return set;
        }

        boolean liesBy(int errand, int carrier) {
            return errands[errand].how == Errand.LIES && errands[errand].from == carriers[carrier].place;
        }

        boolean couldAdd(int carrier, int errand) {
            return weightOf(carriedBy(carrier)) + errands[errand].pounds <= carriers[carrier].canBear();
        }

        void pickUp(int carrier, int errand) {
            errands[errand].how = Errand.CARRIED;
            errands[errand].whom = carrier;
        }

        void takeUpAll(int carrier) {
            for (int e = 0; e < errandCount; e++) {
                if (liesBy(e, carrier) && couldAdd(carrier, e)) {
                    pickUp(carrier, e);
                }
            }
        }

        /** A carrier walks to where there are ways: what it gets there. */
        int go(int carrier, int to) {
            Carrier it = carriers[carrier];
            it.walked += yardsTo(carrier, to);
            it.place = to;
            int gets = 0;
            int carried = carriedBy(carrier);
            for (int e = 0; e < errandCount; e++) {
                if (has(carried, e) && errands[e].to == to) {
                    errands[e].how = Errand.DONE;
                    gets += payFor(carrier, e);
                }
            }
            it.earned += gets;
            return gets;
        }

        /** How many errands are done in n turns by draws. */
        int turns(int n) {
            int before = Integer.bitCount(errandsThat(Errand.DONE));
            for (int i = 0; i < n; i++) {
                turn();
            }
            return Integer.bitCount(errandsThat(Errand.DONE)) - before;
        }

        private void turn() {
            if (carrierCount == 0) {
                return;
            }
            int carrier = draw() % carrierCount;
            takeUpAll(carrier);
            int to = draw() % PLACES;
            if (yardsTo(carrier, to) < NOWHERE) {
                go(carrier, to);
            }
        }

        private int draw() {
            z = z * 1103515245 + 12345;
            return z >>> 8;
        }
    }

    /**
     * The rounds of all parts of a set at once. A stand tells how each errand of the set is (0 lies, 1 carried,
     * 2 done) as a digit to the base 3: each taking up or setting down leads to a greater stand.
     */
    private static final class Rounds {
        private static final int[] POWERS = {1, 3, 9, 27, 81, 243};
        private final int[] numbers = new int[MOST_JOINED];
        private final int[] pounds = new int[MOST_JOINED];
        private final int[] froms = new int[MOST_JOINED];
        private final int[] tos = new int[MOST_JOINED];
        /** The fewest yards to a stand, its last deed done at a place. */
        private final int[] yards = new int[243 * PLACES];
        private int many;

        /** Finds the rounds of a carrier, as one of a kind, of a set (of at most 5) and its parts. */
        void find(Fair fair, int carrier, int kind, int set) {
            gather(fair, set);
            int stands = POWERS[many];
            for (int i = 0; i < stands * PLACES; i++) {
                yards[i] = NOWHERE;
            }
            Carrier it = fair.carriers[carrier];
            yards[it.place] = 0;
            int bears = Kinds.canBear(kind, it.strength);
            int[] table = fair.ways.tableFor(kind);
            for (int stand = 0; stand < stands; stand++) {
                goOnFrom(stand, bears, table);
            }
        }

        /** The round of a part of the set that find() had: NOWHERE if there is none. */
        int yardsOfPart(int part) {
            int stand = 0;
            for (int i = 0; i < many; i++) {
                if (has(part, numbers[i])) {
                    stand += 2 * POWERS[i];
                }
            }
            int least = NOWHERE;
            for (int p = 0; p < PLACES; p++) {
                least = Math.min(least, yards[stand * PLACES + p]);
            }
            return least;
        }

        private void gather(Fair fair, int set) {
            many = 0;
            for (int e = 0; e < fair.errandCount; e++) {
                if (has(set, e) && many < MOST_JOINED) {
                    numbers[many] = e;
                    pounds[many] = fair.errands[e].pounds;
                    froms[many] = fair.errands[e].from;
                    tos[many] = fair.errands[e].to;
                    many++;
                }
            }
        }

        private int howAt(int stand, int i) {
            return stand / POWERS[i] % 3;
        }

        /** What is carried is set down only by a step of its own: that it is so at once can but lighten the load. */
        private void goOnFrom(int stand, int bears, int[] table) {
            int room = bears;
            for (int i = 0; i < many; i++) {
                if (howAt(stand, i) == Errand.CARRIED) {
                    room -= pounds[i];
                }
            }
            for (int i = 0; i < many; i++) {
                int how = howAt(stand, i);
                if (how == Errand.LIES && pounds[i] <= room) {
                    step(stand, stand + POWERS[i], froms[i], table);
                } else if (how == Errand.CARRIED) {
                    step(stand, stand + POWERS[i], tos[i], table);
                }
            }
        }

        private void step(int stand, int next, int to, int[] table) {
            int least = yards[next * PLACES + to];
            for (int p = 0; p < PLACES; p++) {
                int walked = yards[stand * PLACES + p];
                if (walked < least) {
                    least = Math.min(least, walked + table[p * PLACES + to]);
                }
            }
            yards[next * PLACES + to] = least;
        }
    }

    /** The tape, and the reader of the text on it, who stands at one token. */
    private static final class Tape {
        private static final int END = 0;
        private static final int WORD = 1;
        private static final int NUMBER = 2;
        private static final int SIGN = 3;
        private static final int OTHER = 4;
        private final int[] bytes = new int[MOST_BYTES];
        int length;
        private int sort;
        private int start;
        private int after;
        private int number;

        /** There must be room for it. */
        void add(int b) {
            bytes[length] = b;
            length++;
        }

        /** Tells all items to a fair: how many, or -1 less the fault (some are told then). */
        int tellTo(Fair fair) {
            after = 0;
            goOn();
            int items = 0;
            while (items <= MOST_BYTES && readItem(fair)) {
                items++;
                if (sort == END) {
                    fair.ways.measure();
                    return items;
                }
                if (sort != SIGN) {
                    return -1 - start;
                }
                goOn();
            }
            return -1 - start;
        }

        /** Each reader of an item answers false if a token can't stand there, and stands at it then. */
        private boolean readItem(Fair fair) {
            int kind = kindTold();
            if (kind >= 0) {
                return readCarrier(fair, kind);
            }
            if (isWord("way")) {
                return readWay(fair);
            }
            if (isWord("errand")) {
                return readErrand(fair);
            }
            return isWord("ware") && readWare(fair);
        }

        private boolean readCarrier(Fair fair, int kind) {
            if (fair.carrierCount >= MOST_CARRIERS) {
                return false;
            }
            goOn();
            int place = 0;
            if (pass("at")) {
                place = passNumber(0, PLACES - 1);
            }
            if (place < 0) {
                return false;
            }
            int strength = FIRST_STRENGTH;
            if (pass("strong")) {
                strength = passNumber(1, MOST_STRENGTH);
            }
            if (strength < 0) {
                return false;
            }
            fair.addCarrier(kind, place, strength);
            return true;
        }

        private boolean readWay(Fair fair) {
            goOn();
            int one = passNumber(0, PLACES - 1);
            if (one < 0) {
                return false;
            }
            int other = passOtherPlace(one);
            if (other < 0 || !pass("yards")) {
                return false;
            }
            int yards = passNumber(0, MOST_YARDS);
            if (yards < 0) {
                return false;
            }
            fair.ways.lay(one, other, yards, pass("river") ? 1 : 0);
            return true;
        }

        private boolean readErrand(Fair fair) {
            if (fair.errandCount >= MOST_ERRANDS) {
                return false;
            }
            goOn();
            int pounds = passNumber(1, MOST_POUNDS);
            if (pounds < 0 || !pass("from")) {
                return false;
            }
            int from = passNumber(0, PLACES - 1);
            if (from < 0 || !pass("to")) {
                return false;
            }
            int to = passOtherPlace(from);
            if (to < 0) {
                return false;
            }
            fair.addErrand(pounds, from, to);
            return true;
        }

        private boolean readWare(Fair fair) {
            if (fair.wareCount >= MOST_WARES) {
                return false;
            }
            goOn();
            int price = passNumber(1, MOST_PRICE);
            if (price < 0) {
                return false;
            }
            fair.addWare(price);
            return true;
        }

        private int kindTold() {
            if (isWord("carrier")) {
                return Kinds.CARRIER;
            }
            if (isWord("old")) {
                return Kinds.OLD;
            }
            if (isWord("paired")) {
                return Kinds.PAIRED;
            }
            if (isWord("cheating")) {
                return Kinds.CHEATING;
            }
            if (isWord("handed")) {
                return Kinds.HANDED;
            }
            if (isWord("watery")) {
                return Kinds.WATERY;
            }
            return isWord("boated") ? Kinds.BOATED : -1;
        }

        private boolean isWord(String word) {
            if (sort != WORD || after - start != word.length()) {
                return false;
            }
            for (int i = 0; i < word.length(); i++) {
                if (bytes[start + i] != word.charAt(i)) {
                    return false;
                }
            }
            return true;
        }

        private boolean pass(String word) {
            boolean stands = isWord(word);
            if (stands) {
                goOn();
            }
            return stands;
        }

        /** The number that stands there, or -1 if none so does. */
        private int passNumber(int least, int most) {
            if (sort != NUMBER || !within(number, least, most)) {
                return -1;
            }
            int told = number;
            goOn();
            return told;
        }

        private int passOtherPlace(int place) {
            if (sort != NUMBER || number == place || number >= PLACES) {
                return -1;
            }
            int told = number;
            goOn();
            return told;
        }

        /** Goes on to the next token; at the end its start is how many bytes there are. */
        private void goOn() {
            start = after;
            while (start < length && bytes[start] == ' ') {
                start++;
            }
            after = start;
            number = 0;
            sort = start < length ? sortOf(bytes[start]) : END;
            while (after < length && sortOf(bytes[after]) == sort) {
                // a number beyond all limits stays so, however long
                number = Math.min(number * 10 + bytes[after] - '0', MOST_PRICE + 1);
                after++;
                if (sort == SIGN || sort == OTHER) {
                    return;
                }
            }
        }

        private static int sortOf(int b) {
            if (b >= 'a' && b <= 'z') {
                return WORD;
            }
            if (b >= '0' && b <= '9') {
                return NUMBER;
            }
            return b == ';' ? SIGN : OTHER;
        }
    }

    /** A row of numbers of some bits; of 0 bits: it is missing. */
    private static final class Sheet {
        final int[] numbers = new int[MOST_NUMBERS];
        int bits;
        int length;

        boolean isMissing() {
            return bits == 0;
        }

        void begin(int newBits, int n) {
            bits = newBits;
            length = newBits == 0 ? 0 : n;
            for (int i = 0; i < MOST_NUMBERS; i++) {
                numbers[i] = 0;
            }
        }

        void put(int i, int v) {
            if (bits == 8) {
                numbers[i] = (byte) v;
            } else if (bits == 16) {
                numbers[i] = (short) v;
            } else {
                numbers[i] = v;
            }
        }

        /** Whether it has n numbers from one on. */
        boolean hasFrom(int from, int n) {
            return within(n, 0, length) && within(from, 0, length - n);
        }
    }
}
