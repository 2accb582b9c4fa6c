import java.util.function.Supplier;

/** The edges of promises 28 to 35: ways, weights, draws. What all calls about rounds refuse is told by EdgeRoundTest. */
public final class EdgeWayTest {
    private static final int MIN = Integer.MIN_VALUE;
    private static final int MAX = Integer.MAX_VALUE;

    public static void main(String[] args) {
        noRiver();
        firstBridge();
        worths();
        reaches();
        middlesNone();
        middles();
        heaviesRefused();
        heavies();
        daysRefused();
        oneDay();
        mostDays();
        draws();
        seeds();
        Due.end();
    }

    private static void noRiver() {
        Supplier<CarryFair> none = () -> Due.fair("carrier;way 0 1 yards 3;errand 5 from 0 to 1;errand 5 from 0 to 2");
        int[] sets = {0, 1, 2, 3};
        for (int set : sets) {
            Edge.refused("28 NONE: there is no river", none, x -> x.bridge(0, set), Due.NONE);
            Edge.refused("29 NONE: there is no river", none, x -> x.worth(0, set), Due.NONE);
        }
        Edge.refused("28 NONE: no ways at all", () -> Due.fair("carrier"), x -> x.bridge(0, 0), Due.NONE);
        Edge.refused("29 NONE: no ways at all", () -> Due.fair("carrier"), x -> x.worth(0, 0), Due.NONE);
        Supplier<CarryFair> gone = () -> Due.fair("carrier;way 0 1 yards 3;way 1 2 yards 4 river;way 1 2 yards 0 river;errand 5 from 0 to 1");
        Edge.refused("28 NONE: a river that is none any more", gone, x -> x.bridge(0, 1), Due.NONE);
        Edge.refused("29 NONE: a river that is none any more", gone, x -> x.worth(0, 1), Due.NONE);
        Supplier<CarryFair> river = () -> Due.fair("carrier;way 0 1 yards 3 river;errand 5 from 0 to 1;errand 5 from 0 to 2;errand 21 from 0 to 1");
        Edge.asked("28 the only river", river, x -> x.bridge(0, 1), 1);
        Edge.asked("29 the only river", river, x -> x.worth(0, 1), 3);
        int[] roundless = {2, 3, 4, 5};
        for (int set : roundless) {
            Edge.refused("28 NONE: no round with any: " + set, river, x -> x.bridge(0, set), Due.NONE);
            Edge.refused("29 NONE: no round with any: " + set, river, x -> x.worth(0, set), Due.NONE);
        }
    }

    private static void firstBridge() {
        CarryFair x = new CarryFair();
        x.carrier(0);
        x.errand(5, 5, 6);
        for (int one = 0; one < 7; one++) {
            for (int other = one + 1; other < 7; other++) {
                x.way(one, other, 9, 1);
            }
        }
        Due.is("28 empty set: the first of 21 rivers", x.bridge(0, 0), 1);
        x.change(0, 1, 5);
        Due.is("28 the greatest number", x.bridge(0, 1), 56);
        Due.is("29 worth", x.worth(0, 1), 9);
        x.change(0, 1, 4);
        // 4 to 5 and 5 to 6 help alike
        Due.is("28 the first so", x.bridge(0, 1), 45);
        x.way(6, 5, 10, 1);
        Due.is("28 one that helps more", x.bridge(0, 1), 56);
        Due.is("29 worth", x.worth(0, 1), 10);
        // from 5 to 6 it goes around now, by any third place
        x.way(5, 6, 99, 1);
        Due.is("28 one that it goes by twice", x.bridge(0, 1), 45);
        Due.is("29 one that it goes by twice", x.worth(0, 1), 18);
        x.change(0, 1, 5);
        Due.is("28 a way around, the first so", x.bridge(0, 1), 5);
        Due.is("29 a way around", x.worth(0, 1), 9);
    }

    private static void worths() {
        String[] kinds = {"carrier", "old", "paired", "cheating", "handed", "watery", "boated"};
        int[] worths = {7, 7, 7, 7, 7, 0, -4};
        for (int kind = 0; kind <= 6; kind++) {
            String it = kinds[kind];
            Supplier<CarryFair> make = () -> Due.fair(it + ";way 0 1 yards 7 river;errand 5 from 0 to 1");
            Edge.asked("28 the only one, " + it, make, x -> x.bridge(0, 1), 1);
            Edge.asked("29 shorter by so many, " + it, make, x -> x.worth(0, 1), worths[kind]);
            Edge.asked("29 empty set: by none, " + it, make, x -> x.worth(0, 0), 0);
        }
        CarryFair boated = Due.fair("boated;way 0 1 yards 1 river;way 3 4 yards 9 river;errand 5 from 0 to 1");
        Due.is("29 boated: 1 yard either way", boated.worth(0, 1), 0);
        Due.is("28 boated: the first of as good ones", boated.bridge(0, 1), 1);
        boated.way(0, 1, 3, 1);
        Due.is("28 boated: one that it doesn't go by", boated.bridge(0, 1), 34);
        Due.is("29 boated: one that it doesn't go by", boated.worth(0, 1), 0);
    }

    private static void reaches() {
        int[] others = {-1, 4, MIN, MAX};
        for (int c : others) {
            Edge.refused("30 BEYOND: carrier " + c, Edge::rich, x -> x.reach(c), Due.BEYOND);
            Edge.refused("31 BEYOND: carrier " + c, Edge::rich, x -> x.middle(c), Due.BEYOND);
        }
        Edge.refused("30 BEYOND: no carriers", CarryFair::new, x -> x.reach(0), Due.BEYOND);
        Edge.refused("31 BEYOND: no carriers", CarryFair::new, x -> x.middle(0), Due.BEYOND);
        Edge.asked("30 reach", Edge::rich, x -> x.reach(3), 15);
        for (int place = 0; place < 7; place++) {
            CarryFair x = new CarryFair();
            x.carrier(0);
            x.change(0, 1, place);
            Due.is("30 its own place alone", x.reach(0), 1 << place);
            for (int p = 0; p < 6; p++) {
                x.way(p, p + 1, 99, 1);
            }
            Due.is("30 all seven", x.reach(0), 127);
            x.way(3, 4, 0, 1);
            Due.is("30 on its side", x.reach(0), place <= 3 ? 15 : 112);
        }
    }

    private static void middlesNone() {
        Edge.refused("31 NONE: no ways", () -> Due.fair("carrier at 3"), x -> x.middle(0), Due.NONE);
        Edge.refused("31 NONE: all ways are gone", () -> Due.fair("carrier;way 0 1 yards 3;way 0 1 yards 0"), x -> x.middle(0), Due.NONE);
        Edge.refused("31 NONE: two by two", () -> Due.fair("carrier;way 0 1 yards 3;way 5 6 yards 3"), x -> x.middle(0), Due.NONE);
        Edge.refused("31 NONE: one side is but 0", () -> Due.fair("carrier;way 0 6 yards 3;way 2 3 yards 3;way 3 4 yards 3"),
            x -> x.middle(0), Due.NONE);
    }

    private static void middles() {
        Edge.asked("31 two places: the least", () -> Due.fair("carrier at 6;way 5 4 yards 3"), x -> x.middle(0), 4);
        Edge.asked("31 place 0", () -> Due.fair("carrier;way 0 5 yards 3;way 0 6 yards 3"), x -> x.middle(0), 0);
        Edge.asked("31 place 6", () -> Due.fair("carrier;way 6 1 yards 3;way 6 2 yards 3"), x -> x.middle(0), 6);
        Edge.asked("31 the farthest is at 0", () -> Due.fair("carrier;way 1 2 yards 1;way 2 3 yards 1;way 0 1 yards 9"),
            x -> x.middle(0), 1);
        Edge.asked("31 the farthest has a way to 0 alone", () -> Due.fair("carrier;way 6 0 yards 9;way 0 1 yards 1;way 1 2 yards 1"),
            x -> x.middle(0), 0);
        Edge.asked("31 places without ways don't count", () -> Due.fair("carrier at 0;way 2 3 yards 1;way 3 4 yards 2"),
            x -> x.middle(0), 3);
        Edge.asked("31 of two as near the least", () -> Due.fair("carrier;way 1 4 yards 2;way 4 2 yards 2;way 2 5 yards 2"),
            x -> x.middle(0), 2);
        CarryFair x = Due.fair("carrier;watery;boated;way 0 1 yards 4 river;way 1 2 yards 6;way 2 3 yards 2");
        Due.is("31 on foot: 8 and 6 and 2", x.middle(0), 1);
        x.way(1, 2, 7, 0);
        Due.is("31 on foot: 9 from 1 and 15 from 2", x.middle(0), 1);
        Due.is("31 by water: 9 from 1, 11 from 2", x.middle(1), 1);
        x.way(0, 1, 2, 1);
        Due.is("31 as a boated one: 9 from 1, 8 from 2", x.middle(2), 2);
        Due.is("31 by water: 9 from 1 and from 2", x.middle(1), 1);
        Due.is("31 on foot: 9 from 1, 11 from 2", x.middle(0), 1);
    }

    private static CarryFair loads() {
        CarryFair x = Due.fair("carrier;paired;old;carrier", "errand 10 from 0 to 1;errand 5 from 0 to 1;errand 1 from 0 to 1");
        Edge.many(x, "errand 3 from 1 to 0", 5);
        return x;
    }

    private static void heaviesRefused() {
        int[] sets = {-1, 256, 257, MIN, MAX};
        for (int set : sets) {
            Edge.refused("32 BEYOND: bits of none: " + set, EdgeWayTest::loads, x -> x.heavy(0, set), Due.BEYOND);
            Edge.refused("32 BEYOND ahead of STATE: " + set, EdgeWayTest::loads, x -> x.heavy(2, set), Due.BEYOND);
        }
        int[] carriers = {-1, 4, MIN, MAX};
        for (int c : carriers) {
            Edge.refused("32 BEYOND: carrier " + c, EdgeWayTest::loads, x -> x.heavy(c, 1), Due.BEYOND);
            Edge.refused("32 BEYOND: carrier " + c + ", empty set", EdgeWayTest::loads, x -> x.heavy(c, 0), Due.BEYOND);
        }
        Edge.refused("32 STATE: a pound more than it bears", EdgeWayTest::loads, x -> x.heavy(2, 5), Due.STATE);
        Edge.asked("32 what it bears just", EdgeWayTest::loads, x -> x.heavy(2, 1), 1);
        Edge.refused("32 STATE: all eight", EdgeWayTest::loads, x -> x.heavy(0, 255), Due.STATE);
        Edge.asked("32 all eight: more than five", EdgeWayTest::loads, x -> x.heavy(1, 255), 0);
        Edge.refused("32 BEYOND: no errands", () -> Due.fair("carrier"), x -> x.heavy(0, 1), Due.BEYOND);
        Edge.asked("32 no errands, empty set", () -> Due.fair("old strong 1"), x -> x.heavy(0, 0), 0);
    }

    /** One of 10, 5 and 1 pounds weighs 15, 7 and 1: five, two and none more. */
    private static void heavies() {
        int[] strengths = {16, 17, 18, 20, 21, 22};
        int[] heavy = {3, 3, 1, 1, 0, 0};
        for (int i = 0; i < strengths.length; i++) {
            int strength = strengths[i];
            Edge.asked("32 half as much again, cut: with " + strength, () -> {
                CarryFair x = loads();
                x.change(0, 2, strength);
                return x;
            }, x -> x.heavy(0, 7), heavy[i]);
        }
        Supplier<CarryFair> carried = () -> {
            CarryFair x = loads();
            x.change(0, 2, 16);
            x.take(0, 0);
            x.take(3, 1);
            return x;
        };
        Edge.asked("32 how they are doesn't matter", carried, x -> x.heavy(0, 7), 3);
        Edge.asked("32 one of 1 pound weighs no more", carried, x -> x.heavy(0, 4), 0);
        Edge.asked("32 the last one", () -> Due.fair("carrier strong 2", "errand 1 from 0 to 1;errand 2 from 0 to 1"), x -> x.heavy(0, 2), 2);
    }

    private static void daysRefused() {
        int[] others = {0, 13, -1, MIN, MAX};
        for (int n : others) {
            Edge.refused("33 BEYOND: " + n + " times", Edge::rich, x -> x.day(n), Due.BEYOND);
            Edge.refused("34 BEYOND: " + n + " times", Edge::rich, x -> x.ahead(n), Due.BEYOND);
            Edge.refused("33 BEYOND ahead of STATE: " + n + " times", CarryFair::new, x -> x.day(n), Due.BEYOND);
            Edge.refused("34 BEYOND ahead of STATE: " + n + " times", CarryFair::new, x -> x.ahead(n), Due.BEYOND);
        }
        int[] times = {1, 12};
        for (int n : times) {
            Edge.refused("33 STATE: no carriers", CarryFair::new, x -> x.day(n), Due.STATE);
            Edge.refused("34 STATE: no carriers", CarryFair::new, x -> x.ahead(n), Due.STATE);
            Edge.refused("33 STATE: no carriers, but errands", () -> Due.fair("errand 1 from 0 to 1;way 0 1 yards 1"), x -> x.day(n), Due.STATE);
        }
    }

    private static int next(int z) {
        return z * 1103515245 + 12345;
    }

    /** A z from which the two next draws leave such rests, the first of the two z below 0 or not. */
    private static int before(int carriers, int carrier, int place, boolean below) {
        for (int z = 0; z < 1000000; z++) {
            int one = next(z);
            if (one < 0 == below && (one >>> 8) % carriers == carrier && (next(one) >>> 8) % 7 == place) {
                return z;
            }
        }
        return 0;
    }

    private static CarryFair drawn(int z, String... texts) {
        CarryFair x = Due.fair(texts);
        x.seed(z);
        return x;
    }

    private static void oneDay() {
        String five = "carrier;carrier;carrier;carrier;carrier;way 0 1 yards 2;way 0 6 yards 3;errand 20 from 0 to 6;errand 1 from 0 to 6";
        for (int c = 0; c < 5; c++) {
            for (int below = 0; below < 2; below++) {
                int z = before(5, c, 6, below == 1);
                Edge.asked("34 the rest by five: " + c, () -> drawn(z, five), x -> x.ahead(1), 1);
                CarryFair x = drawn(z, five);
                Edge.taken("33 the rest by five: " + c, x, y -> y.day(1), 1);
                Due.is("33 the carrier of the draw", x.of(c, 1), 6);
                Due.is("33 just what it bears, by numbers", x.of(c, 3), 60);
                Due.is("33 the next one was too much", x.now(0), 2);
                Due.is("33 the others stay", x.now(4), 3);
                Due.is("33 z", x.count(6), next(next(z)));
            }
        }
        for (int place = 0; place < 7; place++) {
            CarryFair x = drawn(before(1, 0, place, true), "carrier;way 0 1 yards 1;way 1 2 yards 1;way 2 3 yards 1;way 3 4 yards 1",
                "way 4 5 yards 1;way 5 6 yards 1;errand 2 from 0 to 3");
            Due.is("33 the rest by seven: " + place, x.day(1), place == 3 ? 1 : 0);
            Due.is("33 it walks there", x.of(0, 1), place);
            Due.is("33 it took it up", x.errandOf(0, 3), place == 3 ? 2 : 1);
        }
        CarryFair stays = drawn(before(1, 0, 6, false), "carrier;way 0 1 yards 1;errand 2 from 0 to 1");
        Due.is("33 if there are ways", stays.day(1), 0);
        Due.is("33 it stays", stays.of(0, 1), 0);
        Due.is("33 it took it up", stays.of(0, 6), 1);
        Due.is("33 nothing is refused in it", stays.status(-1), 0);
        CarryFair own = drawn(before(1, 0, 0, false), "carrier at 1;errand 2 from 1 to 0");
        own.take(0, 0);
        own.change(0, 1, 0);
        Due.is("34 its own place, where one goes to", own.ahead(1), 1);
        Due.is("33 its own place, where one goes to", own.day(1), 1);
    }

    private static void mostDays() {
        Supplier<CarryFair> make = () -> drawn(7, "carrier;carrier strong 30;way 0 1 yards 1;way 1 2 yards 1;way 2 3 yards 1;way 3 4 yards 1",
            "way 4 5 yards 1;way 5 6 yards 1;errand 2 from 0 to 3;errand 2 from 3 to 1;errand 2 from 4 to 2;errand 2 from 0 to 6",
            "errand 2 from 5 to 0;errand 2 from 1 to 2;errand 2 from 2 to 1;errand 2 from 6 to 2");
        int done = 0;
        for (int n = 1; n <= 12; n++) {
            int times = n;
            CarryFair x = make.get();
            done = x.ahead(n);
            Edge.asked("34 ahead of " + n, make, y -> y.ahead(times), done);
            Edge.taken("33 day of " + n, x, y -> y.day(times), done);
            Due.is("33 as many are done", Integer.bitCount(x.now(1)), done);
            int z = 7;
            for (int i = 0; i < 2 * n; i++) {
                z = next(z);
            }
            Due.is("33 two draws each", x.count(6), z);
        }
        Due.is("33 some are done in twelve", done > 0 ? 1 : 0, 1);
        CarryFair once = make.get();
        CarryFair twelve = make.get();
        int sum = 0;
        for (int i = 0; i < 12; i++) {
            sum += once.day(1);
        }
        Due.is("33 twelve at once or one by one", twelve.day(12), sum);
        Due.same("33 twelve at once or one by one", Due.stateOf(twelve), Due.stateOf(once));
    }

    /** z goes around beyond the greatest int; what a draw gives is never below 0. */
    private static void draws() {
        int[] seeds = {1, 0, -1, MIN, MAX, 2, 12345};
        for (int seed : seeds) {
            CarryFair x = drawn(seed, "carrier");
            x.day(1);
            Due.is("T two draws from " + seed, x.count(6), next(next(seed)));
        }
        CarryFair first = Due.fair("carrier");
        first.day(1);
        Due.is("T from 1 at first", first.count(6), 1103515245 * 1103527590 + 12345);
    }

    private static void seeds() {
        CarryFair x = new CarryFair();
        int[] any = {0, -1, MIN, MAX, -1000001, -1000002, -1000007, -1000008, 1};
        int before = 1;
        for (int z : any) {
            int was = before;
            Edge.taken("35 z becomes " + z, x, y -> y.seed(z), was);
            Edge.taken("49 z is " + z, x, y -> y.count(6), z);
            before = z;
        }
        for (int z : any) {
            CarryFair y = Edge.rich();
            y.seed(z);
            y.image();
            y.seed(3);
            y.undo();
            Edge.taken("46 z is kept: " + z, y, w -> w.seed(3), z);
        }
    }
}
