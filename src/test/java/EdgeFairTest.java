import java.util.function.ToIntFunction;

/** The edges of promises 1 to 10, and of what the terms tell of places, ways, carriers, errands and wares. */
public final class EdgeFairTest {
    private static final int MIN = Integer.MIN_VALUE;
    private static final int MAX = Integer.MAX_VALUE;

    public static void main(String[] args) {
        allAsAtFirst();
        noSpotsNorSheets();
        carriers();
        asked();
        bears();
        changes();
        changesRefused();
        whatItCarriesComesWithIt();
        ways();
        waysRefused();
        waysAsked();
        errands();
        errandsRefused();
        errandsAsked();
        howErrandsAre();
        wares();
        waresAsked();
        Due.end();
    }

    private static void beyond(String sentence, ToIntFunction<CarryFair> call) {
        Edge.refused(sentence, Edge::rich, call, Due.BEYOND);
    }

    private static void allAsAtFirst() {
        for (int what = 0; what <= 7; what++) {
            int it = what;
            Edge.asked("1 all as at first: count " + it, CarryFair::new, x -> x.count(it), it == 6 ? 1 : 0);
        }
        for (int what = 0; what <= 4; what++) {
            int it = what;
            Edge.asked("1 all as at first: now " + it, CarryFair::new, x -> x.now(it), 0);
        }
        for (int which = -1; which <= 6; which++) {
            int it = which;
            Edge.asked("1 all as at first: status " + it, CarryFair::new, x -> x.status(it), 0);
        }
        for (int one = 0; one < 7; one++) {
            for (int other = 0; other < 7; other++) {
                CarryFair x = new CarryFair();
                if (one != other) {
                    Due.is("1 no ways", x.wayOf(one, other, 0), 0);
                    Due.is("1 by land at first", x.wayOf(one, other, 1), 0);
                }
            }
        }
        Edge.refused("1 no carriers", CarryFair::new, x -> x.of(0, 0), Due.BEYOND);
        Edge.refused("1 no errands", CarryFair::new, x -> x.errandOf(0, 0), Due.BEYOND);
        Edge.refused("1 no wares", CarryFair::new, x -> x.wareOf(0, 0), Due.BEYOND);
        Edge.asked("1 the tape is empty", CarryFair::new, x -> x.wipe(), 0);
        Edge.refused("1 no image is kept", CarryFair::new, x -> x.undo(), Due.NONE);
        Edge.asked("1 no image is kept", CarryFair::new, x -> x.tear(), 0);
        Edge.taken("1 z is 1", new CarryFair(), x -> x.seed(0), 1);
    }

    private static void noSpotsNorSheets() {
        for (int i = 0; i < 10; i++) {
            int spot = i;
            Edge.refused("1 a spot holds nothing", CarryFair::new, x -> x.as(spot, 0), Due.MISSING);
        }
        for (int i = 0; i < 4; i++) {
            int s = i;
            Edge.refused("1 a sheet is missing", CarryFair::new, x -> x.write(s, 0, 0), Due.MISSING);
            Edge.refused("1 a sheet is missing", CarryFair::new, x -> x.load(s), Due.MISSING);
        }
    }

    private static CarryFair withCarriers(int n) {
        CarryFair x = new CarryFair();
        for (int i = 0; i < n; i++) {
            x.carrier(i);
        }
        return x;
    }

    private static void carriers() {
        for (int kind = 0; kind <= 6; kind++) {
            CarryFair x = withCarriers(0);
            int it = kind;
            Edge.taken("2 a new carrier of kind " + kind, x, y -> y.carrier(it), 0);
            Due.is("2 its kind", x.of(0, 0), kind);
            Due.is("T its place is 0 at first", x.of(0, 1), 0);
            Due.is("T its strength is 20 at first", x.of(0, 2), 20);
            Due.is("T its earned is 0 at first", x.of(0, 3), 0);
            Due.is("T its walked is 0 at first", x.of(0, 4), 0);
            Due.is("T it carries nothing at first", x.of(0, 6), 0);
        }
        int[] others = {-1, 7, MIN, MAX};
        for (int kind : others) {
            beyond("2 BEYOND: kind " + kind, x -> x.carrier(kind));
            Edge.refused("2 BEYOND ahead of FULL: kind " + kind, () -> withCarriers(6), x -> x.carrier(kind), Due.BEYOND);
        }
        for (int n = 0; n < 6; n++) {
            int it = n;
            Edge.taken("2 its number " + n, withCarriers(n), x -> x.carrier(6), it);
        }
        for (int kind = 0; kind <= 6; kind++) {
            int it = kind;
            Edge.refused("2 FULL: a seventh", () -> withCarriers(6), x -> x.carrier(it), Due.FULL);
        }
    }

    private static void asked() {
        int[] wants = {6, 1, 20, 8, 1, 20, 0, 0};
        int[] carries = {0, 0, 20, 0, 0, 20, 4, 6};
        for (int what = 0; what <= 7; what++) {
            int it = what;
            Edge.asked("3 what " + what, Edge::rich, x -> x.of(2, it), wants[what]);
            Edge.asked("3 what " + what + " of one that carries", Edge::rich, x -> x.of(1, it), carries[what]);
            beyond("3 BEYOND: a carrier below 0, what " + what, x -> x.of(-1, it));
            beyond("3 BEYOND: a carrier too high, what " + what, x -> x.of(4, it));
        }
        Edge.asked("3 the first carrier", Edge::rich, x -> x.of(0, 0), 4);
        Edge.asked("3 the last carrier", Edge::rich, x -> x.of(3, 0), 0);
        int[] others = {-1, 8, MIN, MAX};
        for (int other : others) {
            beyond("3 BEYOND: what " + other, x -> x.of(0, other));
            beyond("3 BEYOND: a carrier and what " + other, x -> x.of(other, other));
        }
    }

    /** What kinds bear with the least strength, one that is no even number, and the most. */
    private static void bears() {
        int[] strengths = {1, 2, 3, 98, 99};
        int[][] bears = {{1, 2, 3, 98, 99}, {0, 1, 1, 49, 49}, {2, 4, 6, 196, 198}, {0, 1, 1, 49, 49}, {2, 4, 6, 196, 198},
            {1, 2, 3, 98, 99}, {1, 2, 3, 98, 99}};
        for (int kind = 0; kind <= 6; kind++) {
            for (int i = 0; i < strengths.length; i++) {
                CarryFair x = new CarryFair();
                x.carrier(kind);
                x.change(0, 2, strengths[i]);
                Due.is("T BEARS of kind " + kind + ", strength " + strengths[i], x.of(0, 5), bears[kind][i]);
            }
        }
        CarryFair all = Due.fair("paired strong 99");
        Edge.many(all, "errand 24 from 0 to 1", 8);
        for (int e = 0; e < 8; e++) {
            Due.is("13 all eight", all.take(0, e), 24 * (e + 1));
            Due.is("3 what it carries, as a set", all.of(0, 6), (2 << e) - 1);
            Due.is("3 what these weigh", all.of(0, 7), 24 * (e + 1));
        }
    }

    private static void changes() {
        int[] least = {0, 0, 1, 0};
        int[] most = {6, 6, 99, 999999};
        int[] first = {4, 0, 20, 0};
        for (int what = 0; what < 4; what++) {
            int it = what;
            CarryFair x = Edge.rich();
            Edge.taken("4 the most of " + what, x, y -> y.change(0, it, most[it]), first[it]);
            Due.is("4 becomes v", x.of(0, what), most[what]);
            Edge.taken("4 the least of " + what, x, y -> y.change(0, it, least[it]), most[it]);
            Due.is("4 becomes v", x.of(0, what), least[what]);
            Edge.taken("4 as it is", x, y -> y.change(0, it, least[it]), least[it]);
            Edge.taken("4 the last carrier", x, y -> y.change(3, it, most[it]), it == 0 ? 0 : first[it]);
            Due.is("4 the last carrier", x.of(3, what), most[what]);
            Due.is("4 no other one", x.of(0, what), least[what]);
            for (int same = 0; same <= 4; same++) {
                Due.is("4 nothing else of it: " + same, x.of(0, same), same == what ? least[what] : same == 4 ? 0 : first[same]);
            }
        }
    }

    private static void changesRefused() {
        int[][] others = {{0, -1}, {0, 7}, {0, MIN}, {0, MAX}, {1, -1}, {1, 7}, {1, MIN}, {1, MAX}, {2, 0}, {2, 100}, {2, MIN},
            {2, MAX}, {3, -1}, {3, 1000000}, {3, MIN}, {3, MAX}, {4, 0}, {4, 1}, {-1, 0}, {-1, 1}, {5, 1}, {MIN, 1}, {MAX, 1}};
        for (int[] o : others) {
            beyond("4 BEYOND: what " + o[0] + " becomes " + o[1], x -> x.change(0, o[0], o[1]));
            beyond("4 BEYOND: no carrier, what " + o[0] + " becomes " + o[1], x -> x.change(4, o[0], o[1]));
        }
        for (int what = 0; what < 4; what++) {
            int it = what;
            beyond("4 BEYOND: a carrier below 0", x -> x.change(-1, it, 1));
            beyond("4 BEYOND: a carrier too high", x -> x.change(4, it, 1));
        }
    }

    private static void whatItCarriesComesWithIt() {
        CarryFair x = Edge.rich();
        Edge.taken("4 to where the errand goes", x, y -> y.change(1, 1, 2), 0);
        Due.is("4 it carries it still", x.of(1, 6), 4);
        Due.is("4 it isn't done", x.errandOf(2, 3), 1);
        Due.is("4 it hasn't walked", x.of(1, 4), 0);
        Due.is("4 it gets nothing", x.of(1, 3), 0);
        x.change(1, 1, 6);
        Edge.taken("4 what it carries is set down elsewhere then", x, y -> y.drop(1, 2), 0);
        Due.is("4 it lies there", x.errandOf(2, 1), 6);
        CarryFair y = Edge.rich();
        y.change(1, 2, 1);
        Due.is("4 strength below what it carries", y.of(1, 7), 6);
        Due.is("4 it carries it still", y.of(1, 6), 4);
        y.change(1, 0, 1);
        Due.is("4 as one that bears nothing", y.of(1, 5), 0);
        Due.is("4 it carries it still", y.of(1, 6), 4);
        Edge.taken("4 and walks with it", y, z -> z.walk(1, 2), 60);
    }

    private static void ways() {
        int[][] sorts = {{0, 0}, {0, 1}, {1, 0}, {1, 1}, {99, 0}, {99, 1}};
        for (int[] sort : sorts) {
            for (int one = 0; one < 7; one += 3) {
                for (int other = 0; other < 7; other += 2) {
                    if (one != other) {
                        oneWay(one, other, sort[0], sort[1]);
                    }
                }
            }
        }
        CarryFair x = new CarryFair();
        Edge.taken("5 none before", x, y -> y.way(2, 4, 99, 1), 0);
        Edge.taken("5 the same way from the other side", x, y -> y.way(4, 2, 1, 0), 99);
        Edge.taken("5 its yards before", x, y -> y.way(2, 4, 0, 0), 1);
        Edge.taken("5 0: none", x, y -> y.way(4, 2, 0, 0), 0);
    }

    private static void oneWay(int one, int other, int yards, int river) {
        CarryFair x = new CarryFair();
        String told = one + " " + other + " " + yards + " " + river;
        Edge.taken("5 way " + told, x, y -> y.way(one, other, yards, river), 0);
        Due.is("5 yards, way " + told, x.wayOf(one, other, 0), yards);
        Due.is("5 river, way " + told, x.wayOf(one, other, 1), river);
        Due.is("5 yards back, way " + told, x.wayOf(other, one, 0), yards);
        Due.is("5 river back, way " + told, x.wayOf(other, one, 1), river);
        int all = 0;
        for (int a = 0; a < 7; a++) {
            for (int b = a + 1; b < 7; b++) {
                all += x.wayOf(a, b, 0) + 1000 * x.wayOf(b, a, 1);
            }
        }
        Due.is("5 no other one, way " + told, all, yards + 1000 * river);
    }

    private static void waysRefused() {
        int[][] others = {{-1, 1, 5, 0}, {0, -1, 5, 0}, {7, 1, 5, 0}, {0, 7, 5, 0}, {MIN, 0, 5, 0}, {0, MAX, 5, 0}, {0, 1, -1, 0},
            {0, 1, 100, 0}, {0, 1, MIN, 0}, {0, 1, MAX, 0}, {0, 1, 5, -1}, {0, 1, 5, 2}, {0, 1, 5, MIN}, {0, 1, 5, MAX},
            {0, 1, 0, 2}, {0, 1, 100, 2}, {7, 7, 100, 2}, {-1, 7, 0, 0}};
        for (int[] o : others) {
            beyond("5 BEYOND: " + o[0] + " " + o[1] + " " + o[2] + " " + o[3], x -> x.way(o[0], o[1], o[2], o[3]));
        }
        for (int place = 0; place < 7; place++) {
            int it = place;
            beyond("5 BEYOND: one and the same " + it, x -> x.way(it, it, 5, 0));
            beyond("6 BEYOND: one and the same " + it, x -> x.wayOf(it, it, 0));
            beyond("6 BEYOND: one and the same " + it, x -> x.wayOf(it, it, 1));
        }
    }

    private static void waysAsked() {
        Edge.asked("6 what 0", Edge::rich, x -> x.wayOf(1, 2, 0), 3);
        Edge.asked("6 what 1", Edge::rich, x -> x.wayOf(1, 2, 1), 1);
        Edge.asked("6 what 1 by land", Edge::rich, x -> x.wayOf(0, 1, 1), 0);
        Edge.asked("6 there is none", Edge::rich, x -> x.wayOf(0, 6, 0), 0);
        int[][] others = {{-1, 1, 0}, {1, -1, 0}, {7, 1, 0}, {1, 7, 0}, {1, 2, -1}, {1, 2, 2}, {1, 2, MIN}, {1, 2, MAX}, {MIN, 1, 0},
            {1, MAX, 1}, {7, 7, 2}};
        for (int[] o : others) {
            beyond("6 BEYOND: " + o[0] + " " + o[1] + " " + o[2], x -> x.wayOf(o[0], o[1], o[2]));
        }
    }

    private static CarryFair withErrands(int n) {
        CarryFair x = new CarryFair();
        for (int i = 0; i < n; i++) {
            x.errand(1 + i, 0, 1);
        }
        return x;
    }

    private static void errands() {
        int[][] taken = {{1, 0, 6}, {60, 6, 0}, {1, 0, 1}, {60, 5, 6}};
        for (int[] e : taken) {
            CarryFair x = new CarryFair();
            Edge.taken("7 a new errand", x, y -> y.errand(e[0], e[1], e[2]), 0);
            Due.is("7 pounds", x.errandOf(0, 0), e[0]);
            Due.is("7 from", x.errandOf(0, 1), e[1]);
            Due.is("7 to", x.errandOf(0, 2), e[2]);
            Due.is("T it lies at first", x.errandOf(0, 3), 0);
            Due.is("T nobody's at first", x.errandOf(0, 4), -1);
        }
        for (int n = 0; n < 8; n++) {
            int it = n;
            Edge.taken("7 its number", withErrands(n), x -> x.errand(5, 0, 1), it);
        }
        Edge.refused("7 FULL: a ninth", () -> withErrands(8), x -> x.errand(5, 0, 1), Due.FULL);
        Edge.refused("7 FULL: a ninth", () -> withErrands(8), x -> x.errand(60, 6, 0), Due.FULL);
        Edge.refused("7 FULL: done ones count too", () -> {
            CarryFair x = Due.fair("carrier strong 99;way 0 1 yards 1");
            Edge.many(x, "errand 1 from 0 to 1", 8);
            for (int e = 0; e < 8; e++) {
                x.take(0, e);
            }
            x.walk(0, 1);
            return x;
        }, x -> x.errand(1, 0, 1), Due.FULL);
    }

    private static void errandsRefused() {
        int[][] others = {{0, 0, 1}, {61, 0, 1}, {-1, 0, 1}, {MIN, 0, 1}, {MAX, 0, 1}, {5, -1, 1}, {5, 7, 1}, {5, 0, -1}, {5, 0, 7},
            {5, MIN, 1}, {5, 0, MAX}, {0, 7, 7}, {5, -1, -1}};
        for (int[] o : others) {
            beyond("7 BEYOND: " + o[0] + " " + o[1] + " " + o[2], x -> x.errand(o[0], o[1], o[2]));
            Edge.refused("7 BEYOND ahead of FULL: " + o[0] + " " + o[1] + " " + o[2], () -> withErrands(8),
                x -> x.errand(o[0], o[1], o[2]), Due.BEYOND);
        }
        for (int place = 0; place < 7; place++) {
            int it = place;
            beyond("7 BEYOND: from and to one and the same " + it, x -> x.errand(5, it, it));
            Edge.refused("7 BEYOND ahead of FULL: one and the same", () -> withErrands(8), x -> x.errand(5, it, it), Due.BEYOND);
        }
    }

    private static void errandsAsked() {
        int[] wants = {21, 0, 3, 0, -1, 21 * 15};
        for (int what = 0; what <= 5; what++) {
            int it = what;
            Edge.asked("8 what " + what, Edge::rich, x -> x.errandOf(4, it), wants[it]);
            beyond("8 BEYOND: an errand below 0, what " + what, x -> x.errandOf(-1, it));
            beyond("8 BEYOND: an errand too high, what " + what, x -> x.errandOf(5, it));
        }
        Edge.refused("8 NONE: no ways from the one to the other", Edge::rich, x -> x.errandOf(0, 5), Due.NONE);
        int[] others = {-1, 6, MIN, MAX};
        for (int other : others) {
            beyond("8 BEYOND ahead of NONE: what " + other, x -> x.errandOf(0, other));
            beyond("8 BEYOND: what " + other, x -> x.errandOf(1, other));
            beyond("8 BEYOND: errand and what " + other, x -> x.errandOf(other, other));
        }
        // a river of 99 yards six times over counts double for a kind 0
        CarryFair x = Due.fair("watery;way 0 1 yards 99 river;way 1 2 yards 99 river;way 2 3 yards 99 river;way 3 4 yards 99 river",
            "way 4 5 yards 99 river;way 5 6 yards 99 river;errand 60 from 0 to 6;errand 1 from 1 to 2");
        Edge.taken("8 the most worth", x, y -> y.errandOf(0, 5), 60 * 6 * 198);
        x.way(1, 2, 1, 0);
        Edge.taken("8 the least worth", x, y -> y.errandOf(1, 5), 1);
        x.way(1, 2, 0, 0);
        Due.is("8 NONE: no way any more", x.errandOf(1, 5), Due.NONE);
    }

    private static void howErrandsAre() {
        int[] hows = {0, 0, 1, 2, 0};
        int[] whom = {-1, -1, 1, 2, -1};
        for (int e = 0; e < 5; e++) {
            int it = e;
            Edge.asked("8 how errand " + e + " is", Edge::rich, x -> x.errandOf(it, 3), hows[e]);
            Edge.asked("8 by whom errand " + e + " is or was", Edge::rich, x -> x.errandOf(it, 4), whom[e]);
        }
        Edge.asked("8 from stays when it is carried", Edge::rich, x -> x.errandOf(2, 1), 0);
        Edge.asked("8 from stays when it is done", Edge::rich, x -> x.errandOf(3, 1), 2);
        Edge.asked("8 worth of one that is carried", Edge::rich, x -> x.errandOf(2, 5), 60);
        Edge.asked("8 worth of one that is done", Edge::rich, x -> x.errandOf(3, 5), 18);
    }

    private static CarryFair withWares(int n) {
        CarryFair x = new CarryFair();
        for (int i = 0; i < n; i++) {
            x.ware(1 + i);
        }
        return x;
    }

    private static void wares() {
        int[] prices = {1, 9999};
        for (int price : prices) {
            CarryFair x = new CarryFair();
            Edge.taken("9 a new ware of price " + price, x, y -> y.ware(price), 0);
            Due.is("9 its price", x.wareOf(0, 0), price);
            Due.is("T not sold at first", x.wareOf(0, 1), -1);
        }
        for (int n = 0; n < 6; n++) {
            int it = n;
            Edge.taken("9 its number", withWares(n), x -> x.ware(5), it);
        }
        Edge.refused("9 FULL: a seventh", () -> withWares(6), x -> x.ware(1), Due.FULL);
        Edge.refused("9 FULL: a seventh", () -> withWares(6), x -> x.ware(9999), Due.FULL);
        int[] others = {0, 10000, -1, MIN, MAX};
        for (int price : others) {
            beyond("9 BEYOND: price " + price, x -> x.ware(price));
            Edge.refused("9 BEYOND ahead of FULL: price " + price, () -> withWares(6), x -> x.ware(price), Due.BEYOND);
        }
    }

    private static void waresAsked() {
        int[] prices = {77, 10, 9999};
        int[] sold = {-1, 2, -1};
        for (int w = 0; w < 3; w++) {
            int it = w;
            Edge.asked("10 what 0", Edge::rich, x -> x.wareOf(it, 0), prices[w]);
            Edge.asked("10 what 1", Edge::rich, x -> x.wareOf(it, 1), sold[w]);
        }
        int[][] others = {{-1, 0}, {-1, 1}, {3, 0}, {3, 1}, {0, -1}, {0, 2}, {MIN, 0}, {MAX, 0}, {0, MIN}, {0, MAX}, {3, 2}, {-1, -1}};
        for (int[] o : others) {
            beyond("10 BEYOND: " + o[0] + " " + o[1], x -> x.wareOf(o[0], o[1]));
        }
    }
}
