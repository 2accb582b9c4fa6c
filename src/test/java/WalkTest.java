/** Promises 11 to 17: walking. */
public final class WalkTest {
    public static void main(String[] args) {
        fars();
        firsts();
        takes();
        drops();
        walks();
        pays();
        buys();
        nows();
        Due.end();
    }

    private static void fars() {
        CarryFair x = Due.fair("carrier;old;paired;cheating;handed;watery;way 0 1 yards 5 river;way 0 2 yards 4",
            "way 2 1 yards 5;way 1 3 yards 1 river;way 4 5 yards 9");
        int[] far = {9, 9, 9, 9, 9, 5};
        for (int c = 0; c < 6; c++) {
            Due.is("11 far", x.far(c, 0, 1), far[c]);
            Due.is("11 far back", x.far(c, 1, 0), far[c]);
            Due.is("11 far to itself", x.far(c, 6, 6), 0);
            Due.is("11 no ways", x.far(c, 0, 4), Due.NONE);
        }
        x.change(0, 0, 6);
        Due.is("11 boated: half of a river, cut", x.far(0, 0, 1), 2);
        Due.is("11 boated: 1 at least", x.far(0, 1, 3), 1);
        Due.is("11 boated: by land", x.far(0, 4, 5), 9);
        Due.is("11 beyond", x.far(6, 0, 0), Due.BEYOND);
        Due.is("11 beyond", x.far(-1, 0, 0), Due.BEYOND);
        Due.is("11 beyond", x.far(0, 7, 0), Due.BEYOND);
        Due.is("11 beyond", x.far(0, -1, 0), Due.BEYOND);
        Due.is("11 beyond", x.far(0, 0, 7), Due.BEYOND);
        Due.is("11 beyond", x.far(0, 0, -1), Due.BEYOND);
        x.way(0, 1, 0, 1);
        Due.is("11 a way less", x.far(5, 0, 1), 9);
    }

    private static void firsts() {
        CarryFair x = Due.fair("carrier;watery;way 0 5 yards 4;way 5 6 yards 4;way 0 3 yards 3;way 3 6 yards 5",
            "way 0 6 yards 4 river;way 6 1 yards 2");
        Due.is("12 first: of several the least", x.first(0, 6), 3);
        Due.is("12 first beyond that", x.first(0, 1), 3);
        Due.is("12 first by river", x.first(1, 1), 6);
        Due.is("12 its own", x.first(0, 0), 0);
        Due.is("12 next to it", x.first(0, 5), 5);
        Due.is("12 none", x.first(0, 2), Due.NONE);
        Due.is("12 beyond", x.first(2, 0), Due.BEYOND);
        Due.is("12 beyond", x.first(0, 7), Due.BEYOND);
        Due.is("12 beyond", x.first(0, -1), Due.BEYOND);
    }

    private static void takes() {
        CarryFair x = Due.fair("old strong 21;carrier;errand 4 from 0 to 1;errand 6 from 0 to 1;errand 1 from 0 to 1",
            "errand 1 from 1 to 0");
        Due.is("13 beyond", x.take(2, 0), Due.BEYOND);
        Due.is("13 beyond", x.take(0, 4), Due.BEYOND);
        Due.is("13 beyond", x.take(-1, 0), Due.BEYOND);
        Due.is("13 beyond", x.take(0, -1), Due.BEYOND);
        Due.is("13 not where it lies", x.take(0, 3), Due.STATE);
        Due.is("13 take", x.take(0, 0), 4);
        Due.is("13 taken", x.take(0, 0), Due.STATE);
        Due.is("13 taken", x.take(1, 0), Due.STATE);
        Due.is("13 take, no more than it bears", x.take(0, 1), 10);
        Due.is("13 full", x.take(0, 2), Due.FULL);
        Due.is("13 nothing changed", x.of(0, 6), 3);
        Due.is("13 another one", x.take(1, 2), 1);
        Due.is("3 carries", x.of(1, 6), 4);
        Due.is("3 weighs", x.of(0, 7), 10);
    }

    private static void drops() {
        CarryFair x = Due.fair("carrier;carrier;way 0 1 yards 2;way 1 2 yards 3;errand 4 from 0 to 2;errand 5 from 0 to 1");
        x.take(0, 0);
        x.take(0, 1);
        Due.is("14 beyond", x.drop(2, 0), Due.BEYOND);
        Due.is("14 beyond", x.drop(0, 2), Due.BEYOND);
        Due.is("14 beyond", x.drop(-1, 0), Due.BEYOND);
        Due.is("14 beyond", x.drop(0, -1), Due.BEYOND);
        Due.is("14 another carries it", x.drop(1, 0), Due.STATE);
        x.change(0, 1, 1);
        Due.is("14 where it goes to", x.drop(0, 1), Due.STATE);
        Due.is("14 drop", x.drop(0, 0), 5);
        Due.is("14 lies", x.errandOf(0, 3), 0);
        Due.is("14 from there", x.errandOf(0, 1), 1);
        Due.is("14 by nobody", x.errandOf(0, 4), -1);
        Due.is("14 its worth then", x.errandOf(0, 5), 12);
        Due.is("14 it lies", x.drop(0, 0), Due.STATE);
        Due.is("13 taken up there", x.take(0, 0), 9);
        Due.is("15 walk", x.walk(0, 2), 12);
        Due.is("14 done", x.drop(0, 0), Due.STATE);
        Due.is("13 done", x.take(0, 0), Due.STATE);
    }

    private static void walks() {
        CarryFair x = Due.fair("carrier;way 0 1 yards 2;way 1 2 yards 3 river;errand 4 from 0 to 2;errand 5 from 0 to 1",
            "errand 6 from 0 to 2");
        Due.is("15 beyond", x.walk(1, 0), Due.BEYOND);
        Due.is("15 beyond", x.walk(-1, 0), Due.BEYOND);
        Due.is("15 beyond", x.walk(0, 7), Due.BEYOND);
        Due.is("15 beyond", x.walk(0, -1), Due.BEYOND);
        Due.is("15 none", x.walk(0, 3), Due.NONE);
        x.take(0, 0);
        x.take(0, 1);
        x.take(0, 2);
        Due.is("15 walk", x.walk(0, 2), 4 * 8 + 6 * 8);
        Due.is("15 those that go by are not done", x.errandOf(1, 3), 1);
        Due.is("15 place", x.of(0, 1), 2);
        Due.is("15 walked", x.of(0, 4), 8);
        Due.is("15 earned", x.of(0, 3), 80);
        Due.is("15 carries", x.of(0, 6), 2);
        Due.is("15 stays", x.walk(0, 2), 0);
        Due.is("15 walked not", x.of(0, 4), 8);
        Due.is("15 back by it", x.walk(0, 1), 10);
        Due.is("15 walked", x.of(0, 4), 14);
        Due.is("15 earned", x.of(0, 3), 90);
    }

    /** Each kind gets for 19 and for 7 pound yards; and nothing where there are no ways from the place. */
    private static void pays() {
        int[] nineteen = {19, 19, 9, 20, 10, 19, 19};
        int[] seven = {7, 7, 3, 7, 4, 7, 7};
        for (int kind = 0; kind <= 6; kind++) {
            CarryFair x = Due.fair("way 0 1 yards 1;errand 19 from 0 to 1;errand 7 from 0 to 1;errand 7 from 0 to 2");
            x.carrier(kind);
            x.change(0, 2, 99);
            x.take(0, 0);
            x.take(0, 1);
            x.take(0, 2);
            Due.is("15 gets, each by itself, as kind " + kind, x.walk(0, 1), nineteen[kind] + seven[kind]);
            x.change(0, 1, 2);
            Due.is("15 gets nothing as kind " + kind, x.walk(0, 2), 0);
            Due.is("15 done all the same", x.errandOf(2, 3), 2);
        }
    }

    private static void buys() {
        CarryFair x = Due.fair("carrier;old;ware 10;ware 11");
        Due.is("16 beyond", x.buy(2, 0), Due.BEYOND);
        Due.is("16 beyond", x.buy(-1, 0), Due.BEYOND);
        Due.is("16 beyond", x.buy(0, 2), Due.BEYOND);
        Due.is("16 beyond", x.buy(0, -1), Due.BEYOND);
        x.change(0, 3, 9);
        Due.is("16 earned too little", x.buy(0, 0), Due.STATE);
        x.change(0, 3, 10);
        Due.is("16 buy", x.buy(0, 0), 0);
        Due.is("16 earned", x.of(0, 3), 0);
        x.change(1, 3, 100);
        Due.is("16 sold", x.buy(1, 0), Due.STATE);
        Due.is("16 buy", x.buy(1, 1), 89);
        Due.is("16 sold to", x.wareOf(1, 1), 1);
    }

    private static void nows() {
        CarryFair x = Due.fair("carrier;old;way 0 1 yards 3;errand 1 from 0 to 1;errand 1 from 0 to 1;errand 1 from 0 to 1",
            "ware 1;ware 2");
        x.take(0, 1);
        Due.is("17 lie", x.now(0), 5);
        x.walk(0, 1);
        Due.is("17 done", x.now(1), 2);
        x.take(1, 2);
        Due.is("17 lie", x.now(0), 1);
        x.walk(1, 1);
        Due.is("17 done", x.now(1), 6);
        Due.is("17 earned", x.now(3), 6);
        Due.is("17 walked", x.now(4), 6);
        x.buy(1, 1);
        Due.is("17 sold", x.now(2), 2);
        Due.is("17 earned", x.now(3), 4);
        x.buy(1, 0);
        Due.is("17 both sold", x.now(2), 3);
        Due.is("17 beyond", x.now(5), Due.BEYOND);
        Due.is("17 beyond", x.now(-1), Due.BEYOND);
    }
}
