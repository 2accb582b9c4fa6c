/** Promises 1 to 10: the fair. */
public final class FairTest {
    public static void main(String[] args) {
        newObject();
        carriers();
        changes();
        ways();
        errands();
        worths();
        wares();
        Due.end();
    }

    private static void newObject() {
        CarryFair x = new CarryFair();
        for (int what = 0; what <= 7; what++) {
            Due.is("1 count", x.count(what), what == 6 ? 1 : 0);
        }
        for (int what = 0; what <= 4; what++) {
            Due.is("1 now", x.now(what), 0);
        }
        Due.is("1 wayOf", x.wayOf(0, 6, 0), 0);
        Due.is("1 wayOf", x.wayOf(6, 0, 1), 0);
        Due.is("1 status", x.status(-1), 0);
        Due.is("1 undo", x.undo(), Due.NONE);
        Due.is("1 tear", x.tear(), 0);
        for (int s = 0; s < 4; s++) {
            Due.is("1 write", x.write(s, 0, 0), Due.MISSING);
        }
        for (int spot = 0; spot < 10; spot++) {
            Due.is("1 as", x.as(spot, 0), Due.MISSING);
        }
    }

    private static void carriers() {
        CarryFair x = new CarryFair();
        Due.is("2 carrier(-1)", x.carrier(-1), Due.BEYOND);
        Due.is("2 carrier(7)", x.carrier(7), Due.BEYOND);
        for (int i = 0; i < 6; i++) {
            Due.is("2 carrier", x.carrier(i + 1), i);
        }
        Due.is("2 carrier full", x.carrier(0), Due.FULL);
        Due.is("2 carrier beyond ahead of full", x.carrier(7), Due.BEYOND);
        int[] bears = {10, 40, 10, 40, 20, 20};
        for (int i = 0; i < 6; i++) {
            Due.is("3 KIND", x.of(i, 0), i + 1);
            Due.is("3 PLACE", x.of(i, 1), 0);
            Due.is("3 STRENGTH", x.of(i, 2), 20);
            Due.is("3 EARNED", x.of(i, 3), 0);
            Due.is("3 WALKED", x.of(i, 4), 0);
            Due.is("3 BEARS", x.of(i, 5), bears[i]);
            Due.is("3 CARRIES", x.of(i, 6), 0);
            Due.is("3 weighs", x.of(i, 7), 0);
        }
        Due.is("3 of(6, 0)", x.of(6, 0), Due.BEYOND);
        Due.is("3 of(-1, 0)", x.of(-1, 0), Due.BEYOND);
        Due.is("3 of(0, 8)", x.of(0, 8), Due.BEYOND);
        Due.is("3 of(0, -1)", x.of(0, -1), Due.BEYOND);
        Due.is("4 STRENGTH", x.change(0, 2, 17), 20);
        Due.is("3 OLD BEARS half, cut", x.of(0, 5), 8);
        Due.is("4 KIND", x.change(0, 0, 0), 1);
        Due.is("3 CARRIER BEARS", x.of(0, 5), 17);
    }

    private static void changes() {
        CarryFair x = Due.fair("carrier;errand 5 from 0 to 1;errand 6 from 0 to 2");
        Due.is("4 no carrier", x.change(1, 0, 0), Due.BEYOND);
        Due.is("4 no carrier", x.change(-1, 0, 0), Due.BEYOND);
        int[][] beyond = {{0, -1}, {0, 7}, {1, -1}, {1, 7}, {2, 0}, {2, 100}, {3, -1}, {3, 1000000}, {4, 0}, {-1, 0}};
        for (int[] pair : beyond) {
            Due.is("4 beyond", x.change(0, pair[0], pair[1]), Due.BEYOND);
        }
        Due.is("4 earned", x.change(0, 3, 999999), 0);
        Due.is("4 earned", x.change(0, 3, 0), 999999);
        Due.is("4 earned", x.change(0, 3, 7), 0);
        Due.is("3 earned", x.of(0, 3), 7);
        Due.is("4 strength", x.change(0, 2, 99), 20);
        Due.is("13 take", x.take(0, 0), 5);
        Due.is("4 place", x.change(0, 1, 1), 0);
        Due.is("4 what it carries comes with it", x.of(0, 6), 1);
        Due.is("4 it is not done", x.errandOf(0, 3), 1);
        Due.is("4 it lies not there", x.errandOf(0, 1), 0);
        Due.is("3 walked not", x.of(0, 4), 0);
        Due.is("4 strength less than it carries", x.change(0, 2, 1), 99);
        Due.is("3 weighs still", x.of(0, 7), 5);
        Due.is("15 walk to its own place does it", x.walk(0, 1), 0);
        Due.is("8 done", x.errandOf(0, 3), 2);
    }

    private static void ways() {
        CarryFair x = new CarryFair();
        Due.is("5 way", x.way(2, 5, 99, 1), 0);
        Due.is("6 yards", x.wayOf(5, 2, 0), 99);
        Due.is("6 river", x.wayOf(2, 5, 1), 1);
        Due.is("5 way", x.way(5, 2, 1, 0), 99);
        Due.is("6 yards", x.wayOf(2, 5, 0), 1);
        Due.is("6 land", x.wayOf(5, 2, 1), 0);
        Due.is("5 none", x.way(2, 5, 0, 0), 1);
        Due.is("6 none", x.wayOf(2, 5, 0), 0);
        int[][] beyond = {{-1, 0, 1, 0}, {0, -1, 1, 0}, {7, 0, 1, 0}, {0, 7, 1, 0}, {3, 3, 1, 0}, {0, 1, -1, 0},
            {0, 1, 100, 0}, {0, 1, 1, -1}, {0, 1, 1, 2}};
        for (int[] w : beyond) {
            Due.is("5 beyond", x.way(w[0], w[1], w[2], w[3]), Due.BEYOND);
        }
        int[][] none = {{-1, 0, 0}, {0, -1, 0}, {7, 0, 0}, {0, 7, 0}, {4, 4, 0}, {0, 1, -1}, {0, 1, 2}};
        for (int[] w : none) {
            Due.is("6 beyond", x.wayOf(w[0], w[1], w[2]), Due.BEYOND);
        }
    }

    private static void errands() {
        CarryFair x = new CarryFair();
        int[][] beyond = {{0, 0, 1}, {61, 0, 1}, {1, -1, 1}, {1, 7, 1}, {1, 0, -1}, {1, 0, 7}, {1, 4, 4}};
        for (int[] e : beyond) {
            Due.is("7 beyond", x.errand(e[0], e[1], e[2]), Due.BEYOND);
        }
        for (int i = 0; i < 8; i++) {
            Due.is("7 errand", x.errand(i == 0 ? 60 : i, i == 6 ? 0 : 6, i == 6 ? 6 : i % 6), i);
        }
        Due.is("7 full", x.errand(1, 0, 1), Due.FULL);
        Due.is("7 beyond ahead of full", x.errand(1, 0, 0), Due.BEYOND);
        Due.is("8 pounds", x.errandOf(0, 0), 60);
        Due.is("8 from", x.errandOf(3, 1), 6);
        Due.is("8 to", x.errandOf(3, 2), 3);
        Due.is("8 lies", x.errandOf(3, 3), 0);
        Due.is("8 by nobody", x.errandOf(3, 4), -1);
        Due.is("8 no worth", x.errandOf(3, 5), Due.NONE);
        Due.is("8 beyond", x.errandOf(8, 0), Due.BEYOND);
        Due.is("8 beyond", x.errandOf(-1, 0), Due.BEYOND);
        Due.is("8 beyond", x.errandOf(0, 6), Due.BEYOND);
        Due.is("8 beyond", x.errandOf(0, -1), Due.BEYOND);
        x.carrier(5);
        x.change(0, 1, 6);
        Due.is("13 take", x.take(0, 3), 3);
        Due.is("8 carried", x.errandOf(3, 3), 1);
        Due.is("8 by whom", x.errandOf(3, 4), 0);
        x.way(6, 3, 10, 1);
        Due.is("8 worth for a kind 0", x.errandOf(3, 5), 60);
        Due.is("15 walk", x.walk(0, 3), 60);
        Due.is("8 done", x.errandOf(3, 3), 2);
        Due.is("8 by whom done", x.errandOf(3, 4), 0);
        Due.is("8 worth still", x.errandOf(3, 5), 60);
    }

    /** A land way of 8 yards by two steps, a river of 5 straight: 10 for a kind 0. */
    private static void worths() {
        CarryFair x = Due.fair("way 0 1 yards 5 river;way 0 2 yards 4;way 2 1 yards 5;errand 3 from 0 to 1");
        Due.is("8 worth by land", x.errandOf(0, 5), 27);
        x.way(0, 2, 6, 0);
        Due.is("8 worth by river", x.errandOf(0, 5), 30);
    }

    private static void wares() {
        CarryFair x = new CarryFair();
        Due.is("9 beyond", x.ware(0), Due.BEYOND);
        Due.is("9 beyond", x.ware(10000), Due.BEYOND);
        Due.is("9 ware", x.ware(1), 0);
        for (int i = 1; i < 6; i++) {
            Due.is("9 ware", x.ware(9999), i);
        }
        Due.is("9 full", x.ware(5), Due.FULL);
        Due.is("9 beyond ahead of full", x.ware(0), Due.BEYOND);
        Due.is("10 price", x.wareOf(0, 0), 1);
        Due.is("10 price", x.wareOf(5, 0), 9999);
        Due.is("10 sold not", x.wareOf(0, 1), -1);
        Due.is("10 beyond", x.wareOf(6, 0), Due.BEYOND);
        Due.is("10 beyond", x.wareOf(-1, 0), Due.BEYOND);
        Due.is("10 beyond", x.wareOf(0, 2), Due.BEYOND);
        Due.is("10 beyond", x.wareOf(0, -1), Due.BEYOND);
        x.carrier(0);
        x.carrier(0);
        x.change(1, 3, 2);
        Due.is("16 buy", x.buy(1, 0), 1);
        Due.is("10 sold", x.wareOf(0, 1), 1);
    }
}
