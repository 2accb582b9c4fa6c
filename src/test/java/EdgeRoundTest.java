import java.util.function.Supplier;

/** The edges of promises 18 to 27 (and of 28 and 29, where these ask for the same). */
public final class EdgeRoundTest {
    private static final int MIN = Integer.MIN_VALUE;
    private static final int MAX = Integer.MAX_VALUE;

    /** The calls about a carrier and a set, but for gets(). */
    private static final String[] CALLS = {"18 round", "23 joined", "26 strength", "27 kindFor", "28 bridge", "29 worth",
        "24 shared", "25 part", "24 shared, the other", "25 part, the other"};

    private static int ask(CarryFair x, int call, int carrier, int set) {
        switch (call) {
            case 0: return x.round(carrier, set);
            case 1: return x.joined(carrier, set);
            case 2: return x.strength(carrier, set);
            case 3: return x.kindFor(carrier, set);
            case 4: return x.bridge(carrier, set);
            case 5: return x.worth(carrier, set);
            case 6: return x.shared(carrier, 1, set);
            case 7: return x.part(carrier, 1, set);
            case 8: return x.shared(1, carrier, set);
            default: return x.part(1, carrier, set);
        }
    }

    public static void main(String[] args) {
        setsBeyond();
        fiveAndSix();
        carriersBeyond();
        states();
        nones();
        empties();
        rounds();
        gets();
        waresBeyond();
        earnedJust();
        earningTies();
        whoFindings();
        whoTies();
        joined();
        sharing();
        strengths();
        kinds();
        Due.end();
    }

    /** Three carriers of 20 pounds (1 is another kind); four errands: 3 is done; a river that none needs. */
    private static CarryFair line() {
        CarryFair x = Due.fair("carrier;watery;carrier;way 0 1 yards 2;way 1 2 yards 3;way 2 3 yards 4 river;ware 50",
            "errand 10 from 0 to 2;errand 10 from 1 to 3;errand 21 from 0 to 1;errand 1 from 0 to 1;errand 1 from 0 to 5");
        x.take(2, 3);
        x.walk(2, 1);
        x.walk(2, 0);
        return x;
    }

    /** As line(), and carrier 2 carries errand 0. */
    private static CarryFair laden() {
        CarryFair x = line();
        x.take(2, 0);
        return x;
    }

    private static void refused(String sentence, Supplier<CarryFair> make, int carrier, int set, int finding) {
        for (int i = 0; i < CALLS.length; i++) {
            int call = i;
            Edge.refused(CALLS[i] + " " + sentence, make, x -> ask(x, call, carrier, set), finding);
        }
    }

    private static void setsBeyond() {
        int[] sets = {-1, 32, 33, MIN, MAX, MIN + 1, 1 << 30, -2};
        for (int set : sets) {
            refused("BEYOND: bits of none: " + set, EdgeRoundTest::line, 0, set, Due.BEYOND);
            refused("BEYOND ahead of STATE: " + set, EdgeRoundTest::laden, 2, set, Due.BEYOND);
            Edge.refused("19 BEYOND: bits of none: " + set, EdgeRoundTest::line, x -> x.gets(0, set), Due.BEYOND);
            Edge.refused("22 BEYOND: bits of none: " + set, EdgeRoundTest::line, x -> x.who(set), Due.BEYOND);
        }
        Edge.refused("22 BEYOND: bits of none, no carriers", CarryFair::new, x -> x.who(1), Due.BEYOND);
    }

    private static CarryFair eight() {
        CarryFair x = Due.fair("carrier strong 5;watery strong 5;way 0 1 yards 3 river");
        Edge.many(x, "errand 1 from 0 to 1", 8);
        return x;
    }

    /** What five of eight are due, by the calls' numbers. */
    private static void fiveAndSix() {
        int[] five = {6, 5 * 12 - 6, 1, 6, 1, 3, 3, 0, 3};
        int[] fives = {31, 248, 1 + 4 + 16 + 64 + 128};
        int[] more = {63, 252, 255, 127, 254, 1 + 2 + 8 + 16 + 64 + 128};
        for (int set : fives) {
            for (int i = 0; i < CALLS.length; i++) {
                int call = i;
                Edge.asked(CALLS[i] + " five: " + set, EdgeRoundTest::eight, x -> ask(x, call, 0, set), i < 9 ? five[i] : set);
            }
            Edge.asked("19 five: " + set, EdgeRoundTest::eight, x -> x.gets(0, set), 30);
            Edge.asked("22 five: " + set, EdgeRoundTest::eight, x -> x.who(set), 1);
        }
        for (int set : more) {
            refused("BEYOND: more than 5: " + set, EdgeRoundTest::eight, 0, set, Due.BEYOND);
            Edge.refused("19 BEYOND: more than 5: " + set, EdgeRoundTest::eight, x -> x.gets(0, set), Due.BEYOND);
            Edge.refused("22 BEYOND: more than 5: " + set, EdgeRoundTest::eight, x -> x.who(set), Due.BEYOND);
            Edge.refused("22 BEYOND ahead of STATE: " + set, () -> {
                CarryFair x = eight();
                x.take(0, 4);
                return x;
            }, x -> x.who(set), Due.BEYOND);
        }
    }

    private static void carriersBeyond() {
        int[] carriers = {-1, 3, MIN, MAX};
        for (int c : carriers) {
            refused("BEYOND: carrier " + c, EdgeRoundTest::line, c, 1, Due.BEYOND);
            refused("BEYOND: carrier " + c + ", empty set", EdgeRoundTest::line, c, 0, Due.BEYOND);
            refused("BEYOND ahead of STATE: carrier " + c, EdgeRoundTest::line, c, 8, Due.BEYOND);
            Edge.refused("19 BEYOND: carrier " + c, EdgeRoundTest::line, x -> x.gets(c, 1), Due.BEYOND);
            Edge.refused("19 BEYOND ahead of NONE: carrier " + c, EdgeRoundTest::line, x -> x.gets(c, 16), Due.BEYOND);
        }
        for (int c = 0; c < 3; c++) {
            int it = c;
            for (int set = 0; set <= 8; set += 8) {
                int s = set;
                Edge.refused("24 BEYOND: one and the same", EdgeRoundTest::line, x -> x.shared(it, it, s), Due.BEYOND);
                Edge.refused("25 BEYOND: one and the same", EdgeRoundTest::line, x -> x.part(it, it, s), Due.BEYOND);
            }
        }
        Edge.refused("24 BEYOND ahead of STATE: one and the same, and it carries", EdgeRoundTest::laden, x -> x.shared(2, 2, 2), Due.BEYOND);
        Edge.refused("25 BEYOND ahead of STATE: one and the same, and it carries", EdgeRoundTest::laden, x -> x.part(2, 2, 2), Due.BEYOND);
        Edge.refused("24 BEYOND ahead of STATE: no other one", EdgeRoundTest::laden, x -> x.shared(2, 3, 2), Due.BEYOND);
        Edge.refused("25 BEYOND ahead of STATE: no other one", EdgeRoundTest::laden, x -> x.part(2, 3, 2), Due.BEYOND);
        Edge.refused("18 BEYOND: no carriers", CarryFair::new, x -> x.round(0, 0), Due.BEYOND);
    }

    private static void states() {
        refused("STATE: one is done", EdgeRoundTest::line, 0, 8, Due.STATE);
        refused("STATE: one of them is done", EdgeRoundTest::line, 0, 9, Due.STATE);
        refused("STATE: another one carries one", EdgeRoundTest::laden, 0, 1, Due.STATE);
        refused("STATE: another one carries one of them", EdgeRoundTest::laden, 0, 3, Due.STATE);
        refused("STATE: it carries something", EdgeRoundTest::laden, 2, 2, Due.STATE);
        refused("STATE: it carries something, empty set", EdgeRoundTest::laden, 2, 0, Due.STATE);
        refused("STATE: it carries the one", EdgeRoundTest::laden, 2, 1, Due.STATE);
        refused("STATE ahead of NONE: one is done, one has no ways", EdgeRoundTest::line, 0, 24, Due.STATE);
        refused("STATE ahead of NONE: it carries, one has no ways", EdgeRoundTest::laden, 2, 16, Due.STATE);
        Edge.refused("22 STATE: one is done", EdgeRoundTest::line, x -> x.who(8), Due.STATE);
        Edge.refused("22 STATE: one is carried", EdgeRoundTest::laden, x -> x.who(1), Due.STATE);
        Edge.refused("22 STATE: one of them is carried", EdgeRoundTest::laden, x -> x.who(3), Due.STATE);
        Edge.refused("22 STATE ahead of NONE", EdgeRoundTest::laden, x -> x.who(17), Due.STATE);
        Edge.asked("19 one that is done counts too", EdgeRoundTest::laden, x -> x.gets(0, 9), 52);
        Edge.asked("19 for one who carries something", EdgeRoundTest::laden, x -> x.gets(2, 2), 110);
    }

    private static void nones() {
        refused("NONE: no ways to where one goes", EdgeRoundTest::line, 0, 16, Due.NONE);
        refused("NONE: no ways for one of them", EdgeRoundTest::line, 0, 17, Due.NONE);
        Edge.refused("22 NONE: nobody has one", EdgeRoundTest::line, x -> x.who(16), Due.NONE);
        Edge.refused("22 NONE: too heavy for all", EdgeRoundTest::line, x -> x.who(4), Due.NONE);
        int[] heavy = {0, 1, 6, 7, 8, 9, 4, 5};
        for (int call : heavy) {
            Edge.refused(CALLS[call] + " NONE: it doesn't bear it", EdgeRoundTest::line, x -> ask(x, call, 0, 4), Due.NONE);
            Edge.refused(CALLS[call] + " NONE: it doesn't bear one of them", EdgeRoundTest::line, x -> ask(x, call, 0, 5), Due.NONE);
        }
        Edge.asked("26 with more strength", EdgeRoundTest::line, x -> x.strength(0, 5), 21);
        Edge.asked("27 as another kind", EdgeRoundTest::line, x -> x.kindFor(0, 5), 2);
        Edge.refused("19 NONE: one has no worth", EdgeRoundTest::line, x -> x.gets(0, 16), Due.NONE);
        Edge.refused("19 NONE: one of them has no worth", EdgeRoundTest::line, x -> x.gets(0, 17), Due.NONE);
        Edge.refused("19 NONE: the first has no worth", () -> Due.fair("carrier;errand 1 from 0 to 1"), x -> x.gets(0, 1), Due.NONE);
        Edge.asked("19 too heavy, but it has worth", EdgeRoundTest::line, x -> x.gets(0, 4), 42);
        refused("NONE: no ways to where it lies", () -> Due.fair("carrier strong 60;boated;way 0 1 yards 2 river;errand 1 from 6 to 0"),
            0, 1, Due.NONE);
        Supplier<CarryFair> far = () -> {
            CarryFair x = line();
            x.change(0, 1, 6);
            x.change(1, 1, 6);
            return x;
        };
        refused("NONE: no ways from where it is", far, 0, 1, Due.NONE);
        Edge.asked("19 whatever way", far, x -> x.gets(0, 1), 50);
    }

    private static void empties() {
        int[] none = {0, 0, 1, 0, 23, 0, 0, 0, 0, 0};
        for (int i = 0; i < CALLS.length; i++) {
            int call = i;
            Edge.asked(CALLS[i] + " empty set", EdgeRoundTest::line, x -> ask(x, call, 0, 0), none[i]);
        }
        Edge.asked("19 empty set", EdgeRoundTest::line, x -> x.gets(0, 0), 0);
        Edge.asked("22 empty set", EdgeRoundTest::line, x -> x.who(0), 0);
        Edge.asked("22 empty set, of those who carry nothing", () -> {
            CarryFair x = line();
            x.take(0, 0);
            return x;
        }, x -> x.who(0), 1);
        Edge.refused("22 NONE: empty set, all carry something", () -> {
            CarryFair x = Due.fair("carrier;errand 1 from 0 to 1");
            x.take(0, 0);
            return x;
        }, x -> x.who(0), Due.NONE);
        Edge.refused("22 NONE: empty set, no carriers", CarryFair::new, x -> x.who(0), Due.NONE);
        Edge.asked("18 empty set, no errands, no ways", () -> Due.fair("boated at 6 strong 1"), x -> x.round(0, 0), 0);
        Edge.asked("26 empty set, as one that bears nothing", () -> Due.fair("old strong 1"), x -> x.strength(0, 0), 1);
    }

    private static CarryFair pair(int strength, String first, String second) {
        CarryFair x = Due.fair("carrier;way 0 1 yards 7;way 1 2 yards 5", first, second);
        x.change(0, 2, strength);
        return x;
    }

    private static void rounds() {
        Edge.asked("18 it bears it just", () -> pair(10, "errand 10 from 0 to 1", "errand 9 from 0 to 1"), x -> x.round(0, 1), 7);
        Edge.refused("18 NONE: a pound more", () -> pair(9, "errand 10 from 0 to 1", "errand 9 from 0 to 1"), x -> x.round(0, 1), Due.NONE);
        Edge.asked("18 both at a time, just", () -> pair(19, "errand 10 from 0 to 1", "errand 9 from 0 to 1"), x -> x.round(0, 3), 7);
        Edge.asked("18 a pound more: each alone", () -> pair(18, "errand 10 from 0 to 1", "errand 9 from 0 to 1"), x -> x.round(0, 3), 21);
        Edge.asked("18 one is set down where the next one lies", () -> pair(10, "errand 10 from 0 to 1", "errand 10 from 1 to 2"),
            x -> x.round(0, 3), 12);
        Edge.asked("18 one is set down ahead of the next one", () -> pair(10, "errand 10 from 0 to 2", "errand 1 from 1 to 2"),
            x -> x.round(0, 3), 12 + 10);
        // with the first one set down at 2 for a while it would be 103
        Edge.asked("18 none is set down elsewhere", () -> Due.fair("carrier strong 10;way 0 1 yards 1;way 1 2 yards 1;way 2 3 yards 99",
            "errand 10 from 0 to 3;errand 10 from 2 to 1"), x -> x.round(0, 3), 2 + 1 + 1 + 101);
        Edge.asked("18 the last place is the end", () -> pair(10, "errand 10 from 2 to 1", "errand 10 from 1 to 0"),
            x -> x.round(0, 3), 12 + 5 + 7);
        Edge.asked("18 with nothing at first", () -> pair(10, "errand 10 from 1 to 0", "errand 1 from 0 to 1"), x -> x.round(0, 1), 14);
        Edge.asked("18 something along on the way there", () -> pair(10, "errand 10 from 1 to 0", "errand 1 from 0 to 1"),
            x -> x.round(0, 3), 14);
        Edge.asked("18 an old one bears half, cut", () -> {
            CarryFair x = pair(21, "errand 10 from 0 to 1", "errand 11 from 0 to 1");
            x.change(0, 0, 1);
            return x;
        }, x -> x.round(0, 1), 7);
        Edge.refused("18 NONE: an old one bears half, cut", () -> {
            CarryFair x = pair(21, "errand 10 from 0 to 1", "errand 11 from 0 to 1");
            x.change(0, 0, 3);
            return x;
        }, x -> x.round(0, 2), Due.NONE);
    }

    /** For each by itself: half of it, or a tenth of it, cut. */
    private static void gets() {
        String[] kinds = {"carrier", "old", "paired", "cheating", "handed", "watery", "boated"};
        int[] gets = {9 + 19, 9 + 19, 4 + 9, 9 + 20, 5 + 10, 9 + 19, 9 + 19};
        for (int kind = 0; kind <= 6; kind++) {
            String it = kinds[kind];
            Edge.asked("19 each by itself, " + it, () -> Due.fair(it, "way 0 1 yards 1;errand 9 from 0 to 1;errand 19 from 1 to 0"),
                x -> x.gets(0, 3), gets[kind]);
        }
    }

    private static void waresBeyond() {
        int[][] others = {{-1, 0}, {3, 0}, {0, -1}, {0, 1}, {MIN, 0}, {MAX, 0}, {0, MIN}, {0, MAX}, {3, 1}};
        for (int[] o : others) {
            Edge.refused("20 BEYOND: " + o[0] + " " + o[1], EdgeRoundTest::line, x -> x.cheapest(o[0], o[1]), Due.BEYOND);
            Edge.refused("21 BEYOND: " + o[0] + " " + o[1], EdgeRoundTest::line, x -> x.which(o[0], o[1]), Due.BEYOND);
            Edge.refused("20 BEYOND ahead of STATE: " + o[0] + " " + o[1], EdgeRoundTest::sold, x -> x.cheapest(o[0], o[1]), Due.BEYOND);
            Edge.refused("21 BEYOND ahead of STATE: " + o[0] + " " + o[1], EdgeRoundTest::sold, x -> x.which(o[0], o[1]), Due.BEYOND);
        }
        for (int c = 0; c < 3; c++) {
            int it = c;
            Edge.refused("20 STATE: the ware is sold", EdgeRoundTest::sold, x -> x.cheapest(it, 0), Due.STATE);
            Edge.refused("21 STATE: the ware is sold", EdgeRoundTest::sold, x -> x.which(it, 0), Due.STATE);
        }
        Edge.refused("20 STATE: it carries something", EdgeRoundTest::laden, x -> x.cheapest(2, 0), Due.STATE);
        Edge.refused("21 STATE: it carries something", EdgeRoundTest::laden, x -> x.which(2, 0), Due.STATE);
        Edge.refused("20 STATE ahead of NONE: it carries all there is", () -> {
            CarryFair x = Due.fair("carrier;ware 5;errand 1 from 0 to 1");
            x.take(0, 0);
            return x;
        }, x -> x.cheapest(0, 0), Due.STATE);
        Edge.refused("20 NONE: no errands", () -> Due.fair("carrier;ware 1"), x -> x.cheapest(0, 0), Due.NONE);
        Edge.refused("21 NONE: no errands", () -> Due.fair("carrier;ware 1"), x -> x.which(0, 0), Due.NONE);
        Edge.asked("20 another one's load doesn't matter", EdgeRoundTest::laden, x -> x.cheapest(0, 0), 13);
        Edge.asked("21 nor is it to be had", EdgeRoundTest::laden, x -> x.which(0, 0), 2);
    }

    /** The ware is sold to 1, and carrier 2 carries errand 0. */
    private static CarryFair sold() {
        CarryFair x = laden();
        x.change(1, 3, 50);
        x.buy(1, 0);
        return x;
    }

    /** One errand of 30 pound yards, one too heavy, one that no ways lead to; a ware of so much. */
    private static CarryFair earning(int price, int earned) {
        CarryFair x = Due.fair("carrier;way 0 1 yards 3;errand 10 from 0 to 1;errand 21 from 0 to 1;errand 20 from 0 to 2");
        x.ware(price);
        x.change(0, 3, earned);
        return x;
    }

    private static void earnedJust() {
        int[][] cases = {{30, 0, 3, 1}, {31, 0, Due.NONE, Due.NONE}, {31, 1, 3, 1}, {1, 0, 3, 1}, {40, 9, Due.NONE, Due.NONE},
            {40, 10, 3, 1}, {40, 39, 3, 1}, {40, 40, 0, 0}, {40, 41, 0, 0}, {9999, 9999, 0, 0}, {9999, 9998, 3, 1},
            {9999, 999999, 0, 0}, {9999, 0, Due.NONE, Due.NONE}, {1, 1, 0, 0}};
        for (int[] c : cases) {
            String told = " price " + c[0] + ", earned " + c[1];
            Supplier<CarryFair> make = () -> earning(c[0], c[1]);
            if (c[2] == Due.NONE) {
                Edge.refused("20 NONE:" + told, make, x -> x.cheapest(0, 0), Due.NONE);
                Edge.refused("21 NONE:" + told, make, x -> x.which(0, 0), Due.NONE);
            } else {
                Edge.asked("20" + told, make, x -> x.cheapest(0, 0), c[2]);
                Edge.asked("21" + told, make, x -> x.which(0, 0), c[3]);
            }
        }
        CarryFair just = Due.fair("carrier strong 9;way 0 1 yards 2;errand 9 from 0 to 1;ware 18;errand 10 from 0 to 1;ware 19");
        Due.is("20 one that it bears just", just.cheapest(0, 0), 2);
        Due.is("21 one that it bears just", just.which(0, 0), 1);
        Due.is("20 NONE: one of a pound more", just.cheapest(0, 1), Due.NONE);
        // a kind that gets 0 for it, and 1 for it
        CarryFair paired = Due.fair("paired;handed;way 0 1 yards 1;errand 1 from 0 to 1;errand 1 from 0 to 1;ware 1;ware 2;ware 3");
        Due.is("20 NONE: it gets nothing for any", paired.cheapest(0, 0), Due.NONE);
        Due.is("21 one", paired.which(1, 0), 1);
        Due.is("21 both", paired.which(1, 1), 3);
        Due.is("21 NONE: more than both", paired.which(1, 2), Due.NONE);
    }

    private static void earningTies() {
        CarryFair x = Due.fair("carrier strong 40;way 0 1 yards 3;way 0 2 yards 3;errand 1 from 0 to 1;errand 10 from 0 to 2",
            "errand 10 from 0 to 1;errand 5 from 0 to 1;errand 5 from 0 to 1;ware 30;ware 31;ware 16;ware 66");
        Due.is("20 as short", x.cheapest(0, 0), 3);
        Due.is("21 of several as short the least", x.which(0, 0), 2);
        Due.is("21 of several as short the least", x.which(0, 1), 1 + 4);
        Due.is("21 of several as short the least", x.which(0, 2), 2);
        Due.is("20 farther", x.cheapest(0, 3), 9);
        Due.is("21 farther", x.which(0, 3), 2 + 4 + 8);
        CarryFair y = Due.fair("carrier strong 9;way 0 1 yards 1;ware 5;ware 6;ware 4");
        Edge.many(y, "errand 1 from 0 to 1", 8);
        Due.is("20 five", y.cheapest(0, 0), 1);
        Due.is("21 five", y.which(0, 0), 31);
        Due.is("20 NONE: it would need six", y.cheapest(0, 1), Due.NONE);
        Due.is("21 NONE: it would need six", y.which(0, 1), Due.NONE);
        Due.is("21 four", y.which(0, 2), 15);
        y.take(0, 0);
        y.take(0, 3);
        y.walk(0, 1);
        y.change(0, 3, 0);
        y.change(0, 1, 0);
        Due.is("21 of those that lie", y.which(0, 0), 2 + 4 + 16 + 32 + 64);
        Due.is("20 of those that lie", y.cheapest(0, 0), 1);
    }

    private static void whoFindings() {
        CarryFair x = laden();
        Due.is("22 of those who carry nothing", x.who(2), 1);
        x.change(1, 1, 6);
        Due.is("22 the other one has none", x.who(2), 0);
        x.change(0, 1, 6);
        Due.is("22 NONE: the only one that has one carries something", x.who(2), Due.NONE);
        x.drop(2, 0);
        Due.is("22 it carries nothing now", x.who(2), 2);
        Due.is("22 the last one", x.who(3), 2);
    }

    private static void whoTies() {
        CarryFair x = new CarryFair();
        x.way(0, 1, 4, 0);
        x.errand(20, 0, 1);
        for (int c = 0; c < 6; c++) {
            x.carrier(0);
        }
        Due.is("22 of as short the least", x.who(1), 0);
        x.change(0, 2, 19);
        Due.is("22 of as short the least", x.who(1), 1);
        x.change(1, 1, 1);
        Due.is("22 of as short the least", x.who(1), 2);
        for (int c = 2; c < 5; c++) {
            x.change(c, 0, 1);
        }
        Due.is("22 the last of six", x.who(1), 5);
    }

    private static void joined() {
        CarryFair x = Due.fair("carrier;watery;way 0 1 yards 4 river;errand 5 from 0 to 1;errand 6 from 0 to 1;errand 7 from 1 to 0");
        Due.is("23 one: FAR back", x.joined(0, 1), 8);
        Due.is("23 one: FAR back by water", x.joined(1, 1), 4);
        Due.is("23 one that ends where it is", x.joined(0, 4), 0);
        Due.is("23 two", x.joined(0, 3), 8 + 8 + 8 + 8 - 8);
        Due.is("23 there and back", x.joined(0, 5), 8 + 8 + 16 - 16);
        Due.is("23 all", x.joined(0, 7), 16 + 16 + 16 - 16);
        x.change(0, 2, 7);
        Due.is("23 one by one", x.joined(0, 3), 32 - 24);
    }

    private static void sharing() {
        CarryFair x = Due.fair("carrier;carrier;way 0 1 yards 4;way 1 2 yards 4;errand 5 from 0 to 1;errand 20 from 0 to 1",
            "errand 21 from 2 to 1");
        Due.is("24 each one of them", x.shared(0, 1, 3), 8);
        Due.is("25 the least set", x.part(0, 1, 3), 1);
        Due.is("25 the least set", x.part(1, 0, 3), 1);
        Due.is("25 one: nothing for the first", x.part(0, 1, 1), 0);
        Due.is("24 one", x.shared(0, 1, 1), 4);
        x.change(1, 2, 19);
        Due.is("25 the other can't", x.part(0, 1, 2), 2);
        Due.is("25 the other takes what it can", x.part(0, 1, 3), 2);
        Due.is("25 the other way round", x.part(1, 0, 3), 1);
        Due.is("24 NONE: neither bears it", x.shared(0, 1, 4), Due.NONE);
        Due.is("25 NONE: neither bears it", x.part(0, 1, 7), Due.NONE);
        x.change(1, 2, 21);
        x.change(1, 1, 2);
        Due.is("24 a part each", x.shared(0, 1, 7), 12 + 4);
        Due.is("25 one or both of the first two are as good", x.part(0, 1, 7), 1);
        Due.is("25 the third alone is as good", x.part(1, 0, 7), 4);
    }

    private static void strengths() {
        int[] pounds = {1, 2, 49, 50, 60};
        int[][] least = {{1, 2, 49, 50, 60}, {2, 4, 98, Due.NONE, Due.NONE}, {1, 1, 25, 25, 30}};
        int[] sort = {0, 1, 2, 1, 2, 0, 0};
        for (int kind = 0; kind <= 6; kind++) {
            for (int i = 0; i < pounds.length; i++) {
                CarryFair x = new CarryFair();
                x.carrier(kind);
                x.way(0, 1, 99, 1);
                x.errand(1, 1, 0);
                x.errand(pounds[i], 0, 1);
                Due.is("26 kind " + kind + ", pounds " + pounds[i], x.strength(0, 2), least[sort[kind]][i]);
                Due.is("26 with another, kind " + kind + ", pounds " + pounds[i], x.strength(0, 3), least[sort[kind]][i]);
                Due.is("26 its own stays", x.of(0, 2), 20);
            }
        }
        CarryFair first = Due.fair("carrier strong 1;way 0 1 yards 1;errand 60 from 0 to 1;errand 1 from 0 to 1");
        Due.is("26 the first is the heaviest", first.strength(0, 3), 60);
        Due.is("26 of its part", first.strength(0, 2), 1);
    }

    private static void kinds() {
        CarryFair x = Due.fair("cheating;way 0 1 yards 1 river;errand 20 from 0 to 1;errand 40 from 0 to 1;errand 41 from 0 to 1");
        Due.is("27 watery as well as boated: the least", x.kindFor(0, 1), 5);
        x.way(0, 1, 2, 1);
        Due.is("27 boated", x.kindFor(0, 1), 6);
        Due.is("27 the first of as good ones", x.kindFor(0, 2), 2);
        Due.is("27 NONE: a pound more than a paired one bears", x.kindFor(0, 4), Due.NONE);
        x.way(0, 1, 2, 0);
        Due.is("27 by land: the least", x.kindFor(0, 1), 0);
        x.change(0, 2, 19);
        Due.is("27 one that bears it", x.kindFor(0, 1), 2);
        Due.is("27 its own kind stays", x.of(0, 0), 3);
    }
}
