import java.util.function.Supplier;

/** The edges of promises 39 to 45: spots and sheets. */
public final class EdgeSheetTest {
    private static final int MIN = Integer.MIN_VALUE;
    private static final int MAX = Integer.MAX_VALUE;

    public static void main(String[] args) {
        holdsRefused();
        holds();
        asRefused();
        kindsAbove();
        sheetsRefused();
        sheets();
        writesRefused();
        writes();
        signs();
        copiesRefused();
        copies();
        loadsRefused();
        loads();
        judgesRefused();
        judgesWithNoWays();
        judges();
        Due.end();
    }

    private static void holdsRefused() {
        int[][] others = {{-1, 0}, {10, 0}, {MIN, 0}, {MAX, 0}, {0, -2}, {0, 4}, {0, MIN}, {0, MAX}, {10, -1}, {-1, -1}, {10, 4}};
        for (int[] o : others) {
            Edge.refused("39 BEYOND: " + o[0] + " " + o[1], Edge::rich, x -> x.hold(o[0], o[1]), Due.BEYOND);
        }
        Edge.refused("39 BEYOND: no carriers", CarryFair::new, x -> x.hold(0, 0), Due.BEYOND);
        Edge.asked("39 nothing, no carriers", CarryFair::new, x -> x.hold(9, -1), 1);
    }

    private static void holds() {
        for (int s = 0; s < 10; s++) {
            int spot = s;
            CarryFair x = Due.fair("carrier;old;paired");
            for (int c = 0; c < 3; c++) {
                int carrier = c;
                Edge.taken("39 holds", x, y -> y.hold(spot, carrier), 1);
                Edge.taken("40 what it holds", x, y -> y.as(spot, 0), c);
                Due.is("49 spots that hold something", x.count(7), 1);
            }
            for (int other = 0; other < 10; other++) {
                if (other != s) {
                    Due.is("39 no other one", x.as(other, 0), Due.MISSING);
                }
            }
            Edge.taken("39 nothing", x, y -> y.hold(spot, -1), 1);
            Due.is("40 MISSING", x.as(spot, 0), Due.MISSING);
            Due.is("49 none", x.count(7), 0);
            Edge.taken("39 nothing, once more", x, y -> y.hold(spot, -1), 1);
        }
        CarryFair all = Due.fair("carrier");
        for (int s = 0; s < 10; s++) {
            all.hold(s, 0);
            Due.is("49 one carrier at many spots", all.count(7), s + 1);
        }
    }

    private static void asRefused() {
        int[][] others = {{-1, 0}, {10, 0}, {MIN, 0}, {MAX, 0}, {2, -1}, {2, 7}, {2, MIN}, {2, MAX}, {10, 7}};
        for (int[] o : others) {
            Edge.refused("40 BEYOND: " + o[0] + " " + o[1], Edge::rich, x -> x.as(o[0], o[1]), Due.BEYOND);
        }
        Edge.refused("40 BEYOND ahead of MISSING: kind below 0", Edge::rich, x -> x.as(0, -1), Due.BEYOND);
        Edge.refused("40 BEYOND ahead of MISSING: kind too high", Edge::rich, x -> x.as(0, 7), Due.BEYOND);
        for (int kind = 0; kind <= 6; kind++) {
            int it = kind;
            Edge.refused("40 MISSING: it holds nothing", Edge::rich, x -> x.as(0, it), Due.MISSING);
            Edge.refused("40 MISSING: it holds nothing", Edge::rich, x -> x.as(9, it), Due.MISSING);
        }
    }

    private static void kindsAbove() {
        int[] above = {-1, 0, 0, 1, 2, 0, 5};
        for (int kind = 0; kind <= 6; kind++) {
            int has = kind;
            Supplier<CarryFair> make = () -> {
                CarryFair x = Edge.rich();
                x.change(3, 0, has);
                x.hold(9, 3);
                return x;
            };
            for (int as = 0; as <= 6; as++) {
                int it = as;
                boolean is = false;
                for (int k = kind; k >= 0; k = above[k]) {
                    is |= k == as;
                }
                if (is) {
                    Edge.asked("40 kind " + kind + " as " + as, make, x -> x.as(9, it), 3);
                } else {
                    Edge.refused("40 KIND: kind " + kind + " as " + as, make, x -> x.as(9, it), Due.KIND);
                }
            }
        }
        CarryFair x = Due.fair("cheating");
        x.hold(0, 0);
        x.change(0, 0, 6);
        Due.is("40 the kind that it is of now", x.as(0, 5), 0);
        Due.is("40 not the one that it was of", x.as(0, 1), Due.KIND);
    }

    private static void sheetsRefused() {
        int[] noSheets = {-1, 4, MIN, MAX};
        for (int s : noSheets) {
            Edge.refused("41 BEYOND: sheet " + s, Edge::rich, x -> x.sheet(s, 8, 1), Due.BEYOND);
            Edge.refused("41 BEYOND ahead of SIZE: sheet " + s, Edge::rich, x -> x.sheet(s, 8, -1), Due.BEYOND);
            Edge.refused("41 BEYOND: sheet " + s + ", bits 0", Edge::rich, x -> x.sheet(s, 0, 0), Due.BEYOND);
        }
        int[] otherBits = {1, 7, 9, 15, 17, 31, 33, 24, 64, -8, -1, MIN, MAX};
        for (int s = 0; s < 4; s++) {
            int it = s;
            for (int bits : otherBits) {
                Edge.refused("41 BEYOND: bits " + bits, Edge::rich, x -> x.sheet(it, bits, 1), Due.BEYOND);
                Edge.refused("41 BEYOND ahead of SIZE: bits " + bits, Edge::rich, x -> x.sheet(it, bits, -1), Due.BEYOND);
            }
            int[] bits = {0, 8, 16, 32};
            for (int b : bits) {
                Edge.refused("41 SIZE: below 0, bits " + b, Edge::rich, x -> x.sheet(it, b, -1), Due.SIZE);
                Edge.refused("41 SIZE: below 0, bits " + b, Edge::rich, x -> x.sheet(it, b, MIN), Due.SIZE);
                Edge.refused("41 BEYOND: above 40, bits " + b, Edge::rich, x -> x.sheet(it, b, 41), Due.BEYOND);
                Edge.refused("41 BEYOND: above 40, bits " + b, Edge::rich, x -> x.sheet(it, b, MAX), Due.BEYOND);
            }
        }
    }

    private static void sheets() {
        int[] bits = {8, 16, 32};
        int[] sizes = {0, 1, 39, 40};
        for (int s = 0; s < 4; s++) {
            int it = s;
            for (int b : bits) {
                for (int n : sizes) {
                    CarryFair x = Edge.rich();
                    Edge.taken("41 n numbers", x, y -> y.sheet(it, b, n), n);
                    Edge.taken("41 it is there, all 0", x, y -> y.load(it), 0);
                    Edge.taken("45 all 0: places 0", x, y -> y.judge(it, 0), 0);
                    Due.is("42 no number n", x.write(it, n, 1), Due.BEYOND);
                    Due.is("42 the last number", x.write(it, n - 1, 1), n == 0 ? Due.BEYOND : 1);
                    Edge.taken("41 bits 0: 0", x, y -> y.sheet(it, 0, n), 0);
                    Due.is("41 it is MISSING", x.write(it, 0, 1), Due.MISSING);
                    Edge.taken("41 bits 0, missing already", x, y -> y.sheet(it, 0, n), 0);
                    Edge.taken("41 there again", x, y -> y.sheet(it, b, n), n);
                    Edge.taken("41 all 0 again", x, y -> y.load(it), 0);
                }
            }
        }
        CarryFair x = Edge.rich();
        Edge.taken("41 of other bits: all 0", x, y -> y.sheet(0, 32, 3), 3);
        Due.is("41 all 0", x.load(0), 0);
        Due.is("41 no other sheet", x.load(1), 2);
        Due.is("43 of as many bits", x.copy(1, 0, 0, 0, 1), Due.KIND);
    }

    private static void writesRefused() {
        int[] noSheets = {-1, 4, MIN, MAX};
        for (int s : noSheets) {
            Edge.refused("42 BEYOND: sheet " + s, Edge::rich, x -> x.write(s, 0, 1), Due.BEYOND);
            Edge.refused("42 BEYOND: sheet and number", Edge::rich, x -> x.write(s, 99, 1), Due.BEYOND);
        }
        int[] numbers = {0, -1, 40, MIN, MAX};
        for (int i : numbers) {
            Edge.refused("42 MISSING ahead of BEYOND: number " + i, Edge::rich, x -> x.write(3, i, 1), Due.MISSING);
        }
        int[] noNumbers = {-1, 3, 39, 40, MIN, MAX};
        for (int i : noNumbers) {
            Edge.refused("42 BEYOND: no such number " + i, Edge::rich, x -> x.write(0, i, 1), Due.BEYOND);
            Edge.refused("42 BEYOND: no such number, of none " + i, Edge::rich, x -> x.write(2, i, 1), Due.BEYOND);
        }
        Edge.refused("42 BEYOND: number 0 of none", Edge::rich, x -> x.write(2, 0, 1), Due.BEYOND);
    }

    private static void writes() {
        CarryFair x = Edge.rich();
        Edge.taken("42 the first", x, y -> y.write(0, 0, 7), 1);
        Edge.taken("42 the last", x, y -> y.write(0, 2, 9), 1);
        Due.is("44 all come", x.load(0), 3);
        Due.is("42 the first", x.wareOf(0, 0), 7);
        Due.is("42 the one between stays", x.wareOf(1, 0), 2);
        Due.is("42 the last", x.wareOf(2, 0), 9);
        Due.is("42 no other sheet", x.load(1), 2);
        Due.is("42 no other sheet", x.wareOf(0, 0), 300);
        CarryFair most = Due.fair("ware 5;ware 5;ware 5;ware 5;ware 5;ware 5");
        for (int s = 0; s < 4; s++) {
            int it = s;
            most.sheet(s, 32, 40);
            Edge.taken("42 the fortieth", most, y -> y.write(it, 39, 8), 1);
            most.copy(s, 39, s, 0, 1);
            Due.is("42 the fortieth", most.load(s), 1);
            Due.is("42 the fortieth", most.wareOf(0, 0), 8);
        }
    }

    /** The lowest bits, with their sign: what comes as a price, or 0 if it is none. */
    private static void signs() {
        int[][] cases = {{8, 127, 127}, {8, 128, 0}, {8, 255, 0}, {8, 256, 0}, {8, 257, 1}, {8, -1, 0}, {8, -129, 127}, {8, -255, 1},
            {8, 0x12345678, 0x78}, {8, MIN, 0}, {8, MIN + 5, 5}, {8, MAX, 0}, {16, 128, 128}, {16, 255, 255}, {16, 9999, 9999},
            {16, 10000, 0}, {16, 32767, 0}, {16, 32768, 0}, {16, 65535, 0}, {16, 65536, 0}, {16, 65537, 1}, {16, -1, 0},
            {16, -65535, 1}, {16, 0x7fff0003, 3}, {16, MIN + 5, 5}, {32, 9999, 9999}, {32, 10000, 0}, {32, 65537, 0}, {32, -1, 0},
            {32, MIN, 0}, {32, MIN + 5, 0}, {32, MAX, 0}, {32, 257, 257}};
        for (int[] c : cases) {
            CarryFair x = Due.fair("ware 5");
            x.sheet(0, c[0], 1);
            Edge.taken("42 write " + c[1], x, y -> y.write(0, 0, c[1]), 1);
            Due.is("42 " + c[1] + " of bits " + c[0] + " is a price", x.load(0), c[2] == 0 ? 0 : 1);
            Due.is("42 " + c[1] + " of bits " + c[0], x.wareOf(0, 0), c[2] == 0 ? 5 : c[2]);
        }
        // places: of 8 bits 256 is 0, of 16 bits it is no place
        int[][] places = {{8, 256, 0}, {8, 255, Due.NONE}, {8, 250, Due.NONE}, {8, -256, 0}, {16, 256, Due.NONE}, {16, 65536, 0},
            {16, 65535, Due.NONE}, {32, 65536, Due.NONE}, {32, -1, Due.NONE}, {8, 263, Due.NONE}, {16, 65543, Due.NONE}};
        for (int[] c : places) {
            CarryFair x = Due.fair("carrier");
            x.sheet(0, c[0], 1);
            x.write(0, 0, c[1]);
            Due.is("42 " + c[1] + " of bits " + c[0] + " as a place", x.judge(0, 0), c[2]);
        }
    }

    private static CarryFair fours() {
        CarryFair x = Edge.rich();
        Edge.fill(x, 0, 8, 1, 2, 3, 4);
        Edge.fill(x, 1, 8, 5, 6, 7);
        Edge.fill(x, 2, 16, 8, 9, 10, 11);
        return x;
    }

    private static void copyRefused(String sentence, int s, int from, int t, int to, int n, int finding) {
        Edge.refused("43 " + sentence + ": " + s + " " + from + " " + t + " " + to + " " + n, EdgeSheetTest::fours,
            x -> x.copy(s, from, t, to, n), finding);
    }

    private static void copiesRefused() {
        int[] noSheets = {-1, 4, MIN, MAX};
        for (int s : noSheets) {
            copyRefused("BEYOND: no such sheet", s, 0, 0, 0, 1, Due.BEYOND);
            copyRefused("BEYOND: no such sheet to copy to", 0, 0, s, 0, 1, Due.BEYOND);
            copyRefused("BEYOND ahead of MISSING", s, 0, 3, 0, 1, Due.BEYOND);
            copyRefused("BEYOND ahead of MISSING", 3, 0, s, 0, 1, Due.BEYOND);
            copyRefused("BEYOND: neither", s, 0, s, 0, -1, Due.BEYOND);
        }
        copyRefused("MISSING: the one", 3, 0, 0, 0, 1, Due.MISSING);
        copyRefused("MISSING: the other", 0, 0, 3, 0, 1, Due.MISSING);
        copyRefused("MISSING: both", 3, 0, 3, 0, 1, Due.MISSING);
        copyRefused("MISSING ahead of BEYOND", 3, -1, 0, 0, -1, Due.MISSING);
        copyRefused("MISSING ahead of BEYOND", 0, 0, 3, 9, 0, Due.MISSING);
        copyRefused("KIND", 0, 0, 2, 0, 1, Due.KIND);
        copyRefused("KIND", 2, 0, 0, 0, 1, Due.KIND);
        copyRefused("KIND: none of them", 2, 0, 0, 0, 0, Due.KIND);
        int[][] others = {{-1, 0, 1}, {0, -1, 1}, {0, 0, -1}, {0, 0, 4}, {2, 0, 3}, {0, 1, 3}, {0, 2, 2}, {3, 0, 2}, {4, 0, 1}, {0, 3, 1},
            {5, 0, 0}, {0, 4, 0}, {-1, 0, 0}, {0, -1, 0}, {MAX, 0, 1}, {0, MAX, 1}, {0, 0, MAX}, {1, 1, MAX}, {MAX, MAX, MAX},
            {MIN, 0, 1}, {0, MIN, 1}, {0, 0, MIN}, {MAX, 0, MIN}, {MIN, MIN, MIN}, {3, 0, -2}, {MAX, 0, 0}};
        for (int[] o : others) {
            copyRefused("BEYOND", 0, o[0], 1, o[1], o[2], Due.BEYOND);
            copyRefused("KIND ahead of BEYOND", 0, o[0], 2, o[1], o[2], Due.KIND);
        }
        copyRefused("BEYOND: the one has but 3", 1, 0, 0, 0, 4, Due.BEYOND);
        copyRefused("BEYOND: onto itself, one too many", 0, 0, 0, 1, 4, Due.BEYOND);
        copyRefused("BEYOND: onto itself, one too many", 0, 1, 0, 0, 4, Due.BEYOND);
    }

    /** The prices of three wares by a sheet of four numbers, and then by what was behind the first. */
    private static int numbers(CarryFair x, int s) {
        int all = 0;
        for (int turn = 0; turn < 2; turn++) {
            x.load(s);
            int most = turn == 0 ? 3 : 1;
            for (int w = 0; w < most; w++) {
                all = 100 * all + x.wareOf(w, 0);
            }
            x.copy(s, 3, s, 0, 1);
        }
        return all;
    }

    private static void copies() {
        int[][] cases = {{0, 0, 4, 1020304}, {0, 1, 3, 1010203}, {1, 0, 3, 2030404}, {3, 0, 1, 4020304}, {0, 3, 1, 1020301},
            {1, 2, 2, 1020203}, {2, 1, 2, 1030404}, {4, 4, 0, 1020304}, {0, 4, 0, 1020304}, {4, 0, 0, 1020304}, {2, 2, 2, 1020304}};
        for (int[] c : cases) {
            CarryFair x = fours();
            String told = c[0] + " to " + c[1] + ", " + c[2];
            Edge.taken("43 onto itself: " + told, x, y -> y.copy(0, c[0], 0, c[1], c[2]), c[2]);
            Due.is("43 as they all were: " + told, numbers(x, 0), c[3]);
        }
        CarryFair x = fours();
        Edge.taken("43 all of the other one's", x, y -> y.copy(0, 1, 1, 0, 3), 3);
        Due.is("44 three", x.load(1), 3);
        Due.is("43 the first", x.wareOf(0, 0), 2);
        Due.is("43 the last", x.wareOf(2, 0), 4);
        Due.is("43 those that were copied stay", numbers(x, 0), 1020304);
        CarryFair none = fours();
        none.sheet(3, 8, 0);
        Edge.taken("43 none to none", none, y -> y.copy(3, 0, 3, 0, 0), 0);
        Edge.taken("43 none to some", none, y -> y.copy(3, 0, 0, 4, 0), 0);
        CarryFair forty = new CarryFair();
        Edge.fill(forty, 0, 32, new int[40]);
        Edge.fill(forty, 3, 32, new int[40]);
        Edge.taken("43 forty", forty, y -> y.copy(0, 0, 3, 0, 40), 40);
        Due.is("43 BEYOND: forty-one", forty.copy(0, 0, 3, 0, 41), Due.BEYOND);
    }

    private static void loadsRefused() {
        int[] noSheets = {-1, 4, MIN, MAX};
        for (int s : noSheets) {
            Edge.refused("44 BEYOND: sheet " + s, Edge::rich, x -> x.load(s), Due.BEYOND);
        }
        Edge.refused("44 MISSING", Edge::rich, x -> x.load(3), Due.MISSING);
        for (int s = 0; s < 4; s++) {
            int it = s;
            Edge.refused("44 MISSING", CarryFair::new, x -> x.load(it), Due.MISSING);
        }
    }

    private static void loads() {
        int[][] rows = {{1, 2, 3}, {0, 2, 3}, {-1, 2, 3}, {1, 0, 3}, {1, 2, 0}, {9999, 1, 9999}, {10000, 1, 1}, {9999, 10000, 1},
            {1, 2, 10000}, {1, 2, -3}, {MIN, 1, 1}, {MAX, 1, 1}, {}, {4}, {4, 5}, {4, 5, 6, 7}, {4, 5, 6, 0}};
        for (int[] row : rows) {
            CarryFair x = Edge.rich();
            Edge.fill(x, 3, 32, row);
            int came = 0;
            while (came < row.length && came < 3 && row[came] >= 1 && row[came] <= 9999) {
                came++;
            }
            int want = came;
            Edge.taken("44 how many came", x, y -> y.load(3), want);
            int[] prices = {77, 10, 9999};
            for (int w = 0; w < 3; w++) {
                Due.is("44 price", x.wareOf(w, 0), w < came ? row[w] : prices[w]);
                Due.is("44 sold or not as it was", x.wareOf(w, 1), w == 1 ? 2 : -1);
            }
            Due.is("44 no more wares", x.count(2), 3);
            Due.is("44 no more earned", x.count(3), 8);
        }
        Edge.asked("44 no wares", () -> {
            CarryFair x = new CarryFair();
            Edge.fill(x, 0, 8, 1, 2);
            return x;
        }, x -> x.load(0), 0);
        CarryFair six = Due.fair("ware 9;ware 9;ware 9;ware 9;ware 9;ware 9");
        Edge.fill(six, 0, 8, 1, 2, 3, 4, 5, 6, 7);
        Edge.taken("44 six", six, x -> x.load(0), 6);
        Due.is("44 the sixth", six.wareOf(5, 0), 6);
    }

    private static void judgesRefused() {
        int[] noSheets = {-1, 4, MIN, MAX};
        for (int s : noSheets) {
            Edge.refused("45 BEYOND: sheet " + s, Edge::rich, x -> x.judge(s, 0), Due.BEYOND);
            Edge.refused("45 BEYOND: sheet and carrier", Edge::rich, x -> x.judge(s, -1), Due.BEYOND);
        }
        Edge.refused("45 MISSING", Edge::rich, x -> x.judge(3, 0), Due.MISSING);
        int[] noCarriers = {-1, 4, MIN, MAX};
        for (int c : noCarriers) {
            Edge.refused("45 MISSING ahead of BEYOND: carrier " + c, Edge::rich, x -> x.judge(3, c), Due.MISSING);
            Edge.refused("45 BEYOND: carrier " + c, Edge::rich, x -> x.judge(0, c), Due.BEYOND);
            Edge.refused("45 BEYOND ahead of NONE: carrier " + c, Edge::rich, x -> x.judge(1, c), Due.BEYOND);
            Edge.refused("45 BEYOND: no numbers, carrier " + c, Edge::rich, x -> x.judge(2, c), Due.BEYOND);
        }
        Edge.refused("45 MISSING: no carriers", CarryFair::new, x -> x.judge(0, 0), Due.MISSING);
    }

    /** rich() with a row of places. */
    private static Supplier<CarryFair> row(int... places) {
        return () -> {
            CarryFair x = Edge.rich();
            Edge.fill(x, 0, 32, places);
            return x;
        };
    }

    private static void judgesWithNoWays() {
        int[] others = {-1, 7, 4, 5, 6, MIN, MAX, 256};
        for (int place : others) {
            Edge.refused("45 NONE: the first is " + place, row(place), x -> x.judge(0, 0), Due.NONE);
            Edge.refused("45 NONE: the last is " + place, row(1, 2, place), x -> x.judge(0, 0), Due.NONE);
            Edge.refused("45 NONE: one between is " + place, row(1, place, 2), x -> x.judge(0, 1), Due.NONE);
        }
        Edge.asked("45 its own place, without ways", () -> {
            CarryFair x = row(6, 6).get();
            x.change(0, 1, 6);
            return x;
        }, x -> x.judge(0, 0), 0);
    }

    private static void judges() {
        Edge.asked("45 no numbers: nothing", Edge::rich, x -> x.judge(2, 0), 0);
        // the HANDED one bears 40: it takes 5 pounds to 1 (20 yards' worth) and 21 pounds to 3 (315)
        Edge.asked("45 what it takes up ahead of the first", row(1), x -> x.judge(0, 0), 11);
        Edge.asked("45 all", row(1, 3), x -> x.judge(0, 0), 11 + 158);
        Edge.asked("45 by the other row", row(3, 1), x -> x.judge(0, 0), 158 + 11);
        Edge.asked("45 where it is", row(0), x -> x.judge(0, 0), 0);
        Edge.asked("45 what it carries already, and one more", row(1, 2), x -> x.judge(0, 1), 20 + 60);
        Edge.asked("45 too heavy ones stay", row(3, 1, 2), x -> x.judge(0, 3), 20);
        Edge.asked("45 taken up at each", row(0, 1), x -> x.judge(0, 2), 20);
        Supplier<CarryFair> numbers = () -> {
            CarryFair x = Due.fair("carrier strong 10;way 0 1 yards 1;way 1 2 yards 1", "errand 6 from 0 to 1;errand 5 from 0 to 1",
                "errand 4 from 0 to 1;errand 10 from 1 to 2;errand 9 from 2 to 0");
            Edge.fill(x, 0, 8, 1, 2, 0, 1);
            return x;
        };
        Edge.asked("45 by numbers, if it bears it with what it has", numbers, x -> x.judge(0, 0), 6 + 4 + 10 + 18 + 5);
        Supplier<CarryFair> forty = () -> {
            CarryFair x = Due.fair("carrier;way 0 1 yards 1;errand 6 from 0 to 1;errand 5 from 1 to 0");
            int[] places = new int[40];
            places[38] = 1;
            Edge.fill(x, 0, 8, places);
            return x;
        };
        Edge.asked("45 forty numbers", forty, x -> x.judge(0, 0), 11);
        Edge.asked("45 nothing behind the last", () -> {
            CarryFair x = forty.get();
            x.sheet(0, 8, 1);
            x.write(0, 0, 1);
            return x;
        }, x -> x.judge(0, 0), 6);
    }
}
