/** Promises 39 to 45: spots, sheets. */
public final class SheetTest {
    public static void main(String[] args) {
        spots();
        sheets();
        writes();
        copies();
        copyFindings();
        loads();
        judges();
        judgeFindings();
        Due.end();
    }

    private static void spots() {
        CarryFair x = Due.fair("carrier;old;paired;cheating;handed;watery");
        Due.is("39 beyond", x.hold(-1, 0), Due.BEYOND);
        Due.is("39 beyond", x.hold(10, 0), Due.BEYOND);
        Due.is("39 beyond", x.hold(0, 6), Due.BEYOND);
        Due.is("39 beyond", x.hold(0, -2), Due.BEYOND);
        Due.is("40 beyond", x.as(-1, 0), Due.BEYOND);
        Due.is("40 beyond", x.as(10, 0), Due.BEYOND);
        Due.is("40 beyond ahead of missing", x.as(0, 7), Due.BEYOND);
        Due.is("40 beyond ahead of missing", x.as(0, -1), Due.BEYOND);
        Due.is("40 missing", x.as(9, 0), Due.MISSING);
        int[][] under = {{0}, {0, 1}, {0, 2}, {0, 1, 3}, {0, 2, 4}, {0, 5}, {0, 5, 6}};
        for (int kind = 0; kind <= 6; kind++) {
            x.change(5, 0, kind);
            Due.is("39 hold", x.hold(9, 5), 1);
            int set = 0;
            for (int k : under[kind]) {
                set |= 1 << k;
            }
            for (int k = 0; k <= 6; k++) {
                Due.is("40 kind " + kind + " as " + k, x.as(9, k), (set >> k & 1) == 1 ? 5 : Due.KIND);
            }
        }
        Due.is("39 hold", x.hold(0, 0), 1);
        Due.is("49 spots", x.count(7), 2);
        Due.is("39 nothing", x.hold(9, -1), 1);
        Due.is("40 missing", x.as(9, 0), Due.MISSING);
        Due.is("49 spots", x.count(7), 1);
    }

    private static void sheets() {
        CarryFair x = new CarryFair();
        Due.is("41 no such sheet", x.sheet(4, 8, 1), Due.BEYOND);
        Due.is("41 no such sheet", x.sheet(-1, 8, -1), Due.BEYOND);
        Due.is("41 other bits", x.sheet(0, 7, -1), Due.BEYOND);
        Due.is("41 other bits", x.sheet(0, 64, 1), Due.BEYOND);
        Due.is("41 other bits", x.sheet(0, -8, 1), Due.BEYOND);
        Due.is("41 size", x.sheet(0, 8, -1), Due.SIZE);
        Due.is("41 size", x.sheet(0, 0, Integer.MIN_VALUE), Due.SIZE);
        Due.is("41 above 40", x.sheet(0, 16, 41), Due.BEYOND);
        Due.is("41 above 40", x.sheet(0, 0, 41), Due.BEYOND);
        Due.is("41 missing still", x.load(0), Due.MISSING);
        Due.is("41 none of them", x.sheet(0, 8, 0), 0);
        Due.is("41 it is there", x.load(0), 0);
        Due.is("41 forty", x.sheet(0, 32, 40), 40);
        Due.is("41 missing", x.sheet(0, 0, 5), 0);
        Due.is("41 missing", x.load(0), Due.MISSING);
        // all are 0 again: a price that came from the sheet comes no more
        x.ware(5);
        x.sheet(0, 8, 1);
        x.write(0, 0, 9);
        Due.is("44 load", x.load(0), 1);
        Due.is("41 anew", x.sheet(0, 8, 1), 1);
        Due.is("41 all 0", x.load(0), 0);
    }

    private static void writes() {
        CarryFair x = Due.fair("ware 5");
        Due.is("42 no such sheet", x.write(4, 0, 1), Due.BEYOND);
        Due.is("42 no such sheet", x.write(-1, 0, 1), Due.BEYOND);
        Due.is("42 missing ahead of beyond", x.write(0, -1, 1), Due.MISSING);
        x.sheet(0, 8, 3);
        Due.is("42 no such number", x.write(0, 3, 1), Due.BEYOND);
        Due.is("42 no such number", x.write(0, -1, 1), Due.BEYOND);
        Due.is("42 the last", x.write(0, 2, 1), 1);
        int[] bits = {8, 8, 8, 16, 16, 16, 32, 32};
        int[] told = {127, 255, 256 + 3, 32767, 65535, 65536 + 9, 9999, 70000};
        int[] prices = {127, 0, 3, 0, 0, 9, 9999, 0};
        for (int i = 0; i < bits.length; i++) {
            x.sheet(0, bits[i], 1);
            x.write(0, 0, told[i]);
            Due.is("42 bits " + bits[i], x.load(0), prices[i] == 0 ? 0 : 1);
            if (prices[i] != 0) {
                Due.is("42 bits " + bits[i], x.wareOf(0, 0), prices[i]);
            }
        }
    }

    /** What stands in a sheet of five, read by prices. */
    private static int digits(CarryFair x, int s) {
        int all = 0;
        x.load(s);
        for (int w = 0; w < 5; w++) {
            all = 10 * all + x.wareOf(w, 0);
        }
        return all;
    }

    private static CarryFair withFive(int bits) {
        CarryFair x = Due.fair("ware 9;ware 9;ware 9;ware 9;ware 9");
        x.sheet(0, bits, 5);
        x.sheet(1, bits, 5);
        for (int i = 0; i < 5; i++) {
            x.write(0, i, i + 1);
            x.write(1, i, 8);
        }
        return x;
    }

    private static void copies() {
        CarryFair x = withFive(8);
        Due.is("43 copy", x.copy(0, 1, 1, 3, 2), 2);
        Due.is("43 copied", digits(x, 1), 88823);
        Due.is("43 onto itself, forward", x.copy(0, 0, 0, 1, 4), 4);
        Due.is("43 as they all were", digits(x, 0), 11234);
        Due.is("43 onto itself, back", x.copy(0, 2, 0, 0, 3), 3);
        Due.is("43 as they all were", digits(x, 0), 23434);
        Due.is("43 none", x.copy(0, 5, 1, 0, 0), 0);
        Due.is("43 all", x.copy(0, 0, 1, 0, 5), 5);
        Due.is("43 copied", digits(x, 1), 23434);
    }

    private static void copyFindings() {
        CarryFair x = withFive(16);
        Due.is("43 no such sheet", x.copy(4, 0, 0, 0, 1), Due.BEYOND);
        Due.is("43 no such sheet", x.copy(2, 0, -1, 0, 1), Due.BEYOND);
        Due.is("43 missing", x.copy(2, 0, 0, 0, 1), Due.MISSING);
        Due.is("43 missing", x.copy(0, 0, 2, 0, 1), Due.MISSING);
        x.sheet(2, 8, 2);
        Due.is("43 kind ahead of beyond", x.copy(0, 0, 2, 0, -1), Due.KIND);
        x.sheet(2, 16, 2);
        Due.is("43 too many", x.copy(0, 0, 2, 0, 3), Due.BEYOND);
        Due.is("43 too many", x.copy(2, 0, 0, 0, 3), Due.BEYOND);
        Due.is("43 too many", x.copy(0, 4, 1, 0, 2), Due.BEYOND);
        Due.is("43 too many", x.copy(0, 0, 1, 4, 2), Due.BEYOND);
        Due.is("43 below 0", x.copy(0, -1, 1, 0, 1), Due.BEYOND);
        Due.is("43 below 0", x.copy(0, 0, 1, -1, 1), Due.BEYOND);
        Due.is("43 below 0", x.copy(0, 1, 1, 1, -1), Due.BEYOND);
        int most = Integer.MAX_VALUE;
        Due.is("43 far too many", x.copy(0, most, 1, 0, most), Due.BEYOND);
        Due.is("43 far too many", x.copy(0, 1, 1, 1, most), Due.BEYOND);
        Due.is("43 far too many", x.copy(0, Integer.MIN_VALUE, 1, 0, Integer.MIN_VALUE), Due.BEYOND);
        Due.is("43 nothing changed", digits(x, 1), 88888);
    }

    private static void loads() {
        CarryFair x = Due.fair("ware 5;ware 6;ware 7;carrier");
        Due.is("44 no such sheet", x.load(4), Due.BEYOND);
        Due.is("44 no such sheet", x.load(-1), Due.BEYOND);
        Due.is("44 missing", x.load(3), Due.MISSING);
        x.sheet(3, 32, 4);
        int[] prices = {9999, 1, 10000, 3};
        for (int i = 0; i < 4; i++) {
            x.write(3, i, prices[i]);
        }
        Due.is("44 up to the first that isn't one", x.load(3), 2);
        Due.is("44 price", x.wareOf(0, 0), 9999);
        Due.is("44 price", x.wareOf(1, 0), 1);
        Due.is("44 price", x.wareOf(2, 0), 7);
        x.write(3, 2, 2);
        x.change(0, 3, 1);
        x.buy(0, 1);
        Due.is("44 as many as there are wares", x.load(3), 3);
        Due.is("44 price", x.wareOf(2, 0), 2);
        Due.is("44 sold still", x.wareOf(1, 1), 0);
        x.write(3, 0, -1);
        Due.is("44 none", x.load(3), 0);
    }

    private static void judges() {
        CarryFair x = Due.fair("carrier;handed at 1;way 0 1 yards 2;way 1 2 yards 3", "errand 12 from 0 to 2;errand 9 from 0 to 1",
            "errand 5 from 1 to 2;errand 8 from 0 to 1;errand 4 from 2 to 0");
        x.sheet(0, 8, 3);
        x.write(0, 0, 1);
        x.write(0, 1, 2);
        x.write(0, 2, 0);
        String before = Due.stateOf(x);
        // takes 12 and 8 (9 is too much), does 8; takes 5; does both; takes 4, does it
        Due.is("45 judge", x.judge(0, 0), 16 + 60 + 15 + 20);
        // at 1: 5 (7 + 1); at 2: 4 (10 + 1), and at 0 the rest, which is not done any more
        Due.is("45 judge another", x.judge(0, 1), 8 + 11);
        Due.same("45 judge", Due.stateOf(x), before);
        x.sheet(1, 16, 0);
        Due.is("45 none to walk to", x.judge(1, 0), 0);
        x.sheet(1, 8, 1);
        x.write(1, 0, 1);
        Due.is("45 none behind the last", x.judge(1, 0), 16);
        x.sheet(1, 32, 40);
        Due.is("45 forty", x.judge(1, 0), 0);
        x.write(1, 37, 1);
        x.write(1, 38, 2);
        Due.is("45 the last of forty", x.judge(1, 0), 16 + 60 + 15 + 20);
        x.take(0, 0);
        Due.is("45 what it carries comes with it", x.judge(0, 0), 16 + 60 + 15 + 20);
    }

    private static void judgeFindings() {
        CarryFair x = Due.fair("carrier;way 0 1 yards 2;errand 1 from 0 to 1");
        Due.is("45 no such sheet", x.judge(4, 0), Due.BEYOND);
        Due.is("45 no such sheet", x.judge(-1, 9), Due.BEYOND);
        Due.is("45 missing ahead of no such carrier", x.judge(0, 9), Due.MISSING);
        x.sheet(0, 8, 2);
        Due.is("45 no such carrier", x.judge(0, 1), Due.BEYOND);
        Due.is("45 no such carrier", x.judge(0, -1), Due.BEYOND);
        int[] none = {2, 7, -1, 127};
        for (int place : none) {
            x.write(0, 0, 1);
            x.write(0, 1, place);
            Due.is("45 no ways or no place: " + place, x.judge(0, 0), Due.NONE);
        }
        Due.is("45 nothing changed", x.of(0, 1), 0);
        Due.is("45 nothing changed", x.now(0), 1);
    }
}
