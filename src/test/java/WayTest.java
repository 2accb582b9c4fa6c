/** Promises 28 to 32: ways, weights. */
public final class WayTest {
    public static void main(String[] args) {
        bridges();
        bridgeFindings();
        reaches();
        middles();
        heavies();
        Due.end();
    }

    private static void bridges() {
        CarryFair x = Due.fair("carrier;way 0 1 yards 3 river;way 1 2 yards 4 river;way 0 3 yards 4 river",
            "errand 5 from 0 to 2;errand 5 from 0 to 1;errand 5 from 0 to 3");
        String before = Due.stateOf(x);
        Due.is("28 the shortest", x.bridge(0, 1), 12);
        Due.is("29 the shortest", x.worth(0, 1), 4);
        Due.is("28 another", x.bridge(0, 2), 1);
        Due.is("29 another", x.worth(0, 2), 3);
        Due.is("28 the first so", x.bridge(0, 5), 3);
        Due.is("29 the first so", x.worth(0, 5), 8 + 8 + 14 - (4 + 4 + 14));
        Due.is("28 empty", x.bridge(0, 0), 1);
        Due.is("29 empty", x.worth(0, 0), 0);
        Due.same("28 bridge", Due.stateOf(x), before);
        x.way(2, 1, 4, 0);
        Due.is("28 a way by land is none", x.bridge(0, 1), 1);
        x.change(0, 0, 5);
        Due.is("28 watery: the first", x.bridge(0, 4), 1);
        Due.is("29 watery", x.worth(0, 4), 0);
        x.change(0, 0, 6);
        Due.is("28 boated: one that it needn't go", x.bridge(0, 4), 1);
        x.way(0, 1, 0, 1);
        x.change(0, 1, 0);
        Due.is("28 boated: the only one", x.bridge(0, 4), 3);
        Due.is("29 boated: it would be longer", x.worth(0, 4), -2);
    }

    private static void bridgeFindings() {
        CarryFair x = Due.fair("carrier;carrier;way 0 1 yards 3;errand 5 from 0 to 1;errand 50 from 0 to 1;errand 1 from 0 to 2");
        Due.is("28 no river", x.bridge(0, 1), Due.NONE);
        Due.is("29 no river", x.worth(0, 1), Due.NONE);
        x.way(1, 3, 5, 1);
        Due.is("28 a river", x.bridge(0, 1), 13);
        Due.is("29 a river", x.worth(0, 1), 0);
        Due.is("28 no round", x.bridge(0, 2), Due.NONE);
        Due.is("29 no round", x.worth(0, 2), Due.NONE);
        Due.is("28 no round", x.bridge(0, 5), Due.NONE);
        Due.is("29 no round", x.worth(0, 5), Due.NONE);
        x.way(1, 3, 0, 1);
        Due.is("28 no way is no river", x.bridge(0, 1), Due.NONE);
        int[] beyond = {-1, 8};
        for (int set : beyond) {
            Due.is("28 beyond", x.bridge(0, set), Due.BEYOND);
            Due.is("29 beyond", x.worth(0, set), Due.BEYOND);
        }
        Due.is("28 beyond", x.bridge(2, 1), Due.BEYOND);
        Due.is("29 beyond", x.worth(-1, 1), Due.BEYOND);
        x.take(0, 0);
        Due.is("28 state", x.bridge(0, 2), Due.STATE);
        Due.is("29 state", x.worth(0, 2), Due.STATE);
        Due.is("28 state", x.bridge(1, 1), Due.STATE);
        Due.is("29 state", x.worth(1, 1), Due.STATE);
        CarryFair y = Due.fair("carrier", "errand 1 from 0 to 1;errand 1 from 0 to 1;errand 1 from 0 to 1",
            "errand 1 from 0 to 1;errand 1 from 0 to 1;errand 1 from 0 to 1;way 0 1 yards 1 river");
        Due.is("28 five", y.bridge(0, 31), 1);
        Due.is("28 six", y.bridge(0, 63), Due.BEYOND);
        Due.is("29 six", y.worth(0, 63), Due.BEYOND);
    }

    private static void reaches() {
        CarryFair x = Due.fair("carrier;carrier at 4;watery at 6;way 0 1 yards 3;way 1 5 yards 1 river;way 4 3 yards 9");
        Due.is("30 reach", x.reach(0), 35);
        Due.is("30 reach", x.reach(1), 24);
        Due.is("30 its own", x.reach(2), 64);
        Due.is("30 beyond", x.reach(3), Due.BEYOND);
        Due.is("30 beyond", x.reach(-1), Due.BEYOND);
    }

    private static void middles() {
        CarryFair x = Due.fair("carrier at 6;watery;boated");
        Due.is("31 no ways", x.middle(0), Due.NONE);
        Due.tell(x, "way 1 2 yards 5;way 2 3 yards 4;way 3 4 yards 3 river");
        // from 2: 10 at most on foot, 7 by water; from 3: 9 on foot, 9 by water
        Due.is("31 on foot", x.middle(0), 3);
        Due.is("31 by water", x.middle(1), 2);
        Due.is("31 boated", x.middle(2), 2);
        x.way(5, 6, 1, 0);
        Due.is("31 others can't be come to", x.middle(0), Due.NONE);
        x.way(5, 6, 0, 0);
        x.way(1, 2, 6, 0);
        Due.is("31 as near: the least", x.middle(0), 2);
        Due.is("31 beyond", x.middle(3), Due.BEYOND);
        Due.is("31 beyond", x.middle(-1), Due.BEYOND);
    }

    private static void heavies() {
        CarryFair x = Due.fair("carrier strong 20;old strong 39", "errand 9 from 0 to 1;errand 6 from 0 to 1",
            "errand 2 from 0 to 1;errand 1 from 0 to 1;errand 1 from 0 to 1;errand 1 from 0 to 1;errand 2 from 1 to 0");
        Due.is("32 none", x.heavy(0, 3), 0);
        Due.is("32 one", x.heavy(0, 7), 1);
        Due.is("32 each alone", x.heavy(0, 7 | 64), 3);
        Due.is("32 more than five", x.heavy(0, 63), 7);
        Due.is("32 all but those of 1", x.heavy(1, 7 | 64), 67 | 4);
        Due.is("32 it doesn't bear it", x.heavy(1, 63), Due.STATE);
        Due.is("32 empty", x.heavy(0, 0), 0);
        Due.is("32 beyond", x.heavy(0, 128), Due.BEYOND);
        Due.is("32 beyond", x.heavy(0, -1), Due.BEYOND);
        Due.is("32 beyond", x.heavy(2, 0), Due.BEYOND);
        Due.is("32 beyond", x.heavy(-1, 0), Due.BEYOND);
        x.take(0, 0);
        Due.is("32 what it carries counts not", x.heavy(0, 7), 1);
    }
}
