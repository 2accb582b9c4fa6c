/** Promises 18 to 27: rounds. */
public final class RoundTest {
    /** Places in a line: 0 2 1 3 2 4(river) 3; errand 0 goes 0 to 2, 1 goes 1 to 3, 2 goes 3 to 2. */
    private static final String LINE = "way 0 1 yards 2;way 1 2 yards 3;way 2 3 yards 4 river";
    private static final String ERRANDS = "errand 10 from 0 to 2;errand 10 from 1 to 3;errand 21 from 3 to 2";

    public static void main(String[] args) {
        rounds();
        beyonds();
        states();
        gets();
        earning();
        earningOfKinds();
        who();
        joined();
        shared();
        strengths();
        kinds();
        Due.end();
    }

    private static void rounds() {
        CarryFair x = Due.fair("carrier", LINE, ERRANDS);
        String before = Due.stateOf(x);
        Due.is("18 empty", x.round(0, 0), 0);
        Due.is("18 one", x.round(0, 1), 5);
        Due.is("18 another", x.round(0, 2), 13);
        Due.is("18 both at a time", x.round(0, 3), 13);
        Due.is("18 it doesn't bear it", x.round(0, 4), Due.NONE);
        Due.is("18 nor with others", x.round(0, 7), Due.NONE);
        Due.same("18 round", Due.stateOf(x), before);
        x.change(0, 2, 19);
        Due.is("18 one behind the other", x.round(0, 3), 19);
        x.change(0, 2, 21);
        Due.is("18 the way back", x.round(0, 7), 21);
        x.change(0, 0, 5);
        Due.is("18 watery", x.round(0, 7), 13);
        x.change(0, 0, 6);
        Due.is("18 boated", x.round(0, 7), 9);
        x.change(0, 0, 2);
        x.change(0, 2, 10);
        Due.is("18 paired bears both", x.round(0, 3), 13);
        x.change(0, 0, 1);
        Due.is("18 old bears none", x.round(0, 3), Due.NONE);
        x.change(0, 2, 20);
        Due.is("18 old bears each", x.round(0, 3), 19);
        x.change(0, 1, 4);
        Due.is("18 no ways", x.round(0, 1), Due.NONE);
        Due.is("18 empty, no ways", x.round(0, 0), 0);
        x.change(0, 1, 2);
        Due.is("18 from where it is", x.round(0, 1), 10);
        // set down at 2 on the way to 3: the next one is borne from there on
        CarryFair y = Due.fair("carrier", LINE, "errand 20 from 0 to 2;errand 20 from 2 to 3");
        Due.is("18 set down as soon as it comes there", y.round(0, 3), 13);
    }

    private static void beyonds() {
        CarryFair x = Due.fair("carrier;carrier;ware 1", LINE, ERRANDS, ERRANDS);
        int[] sets = {-1, 64, 63, Integer.MIN_VALUE, Integer.MAX_VALUE};
        for (int set : sets) {
            Due.is("18 beyond", x.round(0, set), Due.BEYOND);
            Due.is("19 beyond", x.gets(0, set), Due.BEYOND);
            Due.is("22 beyond", x.who(set), Due.BEYOND);
            Due.is("23 beyond", x.joined(0, set), Due.BEYOND);
            Due.is("24 beyond", x.shared(0, 1, set), Due.BEYOND);
            Due.is("25 beyond", x.part(0, 1, set), Due.BEYOND);
            Due.is("26 beyond", x.strength(0, set), Due.BEYOND);
            Due.is("27 beyond", x.kindFor(0, set), Due.BEYOND);
        }
        int[] carriers = {-1, 2};
        for (int c : carriers) {
            Due.is("18 no carrier", x.round(c, 1), Due.BEYOND);
            Due.is("19 no carrier", x.gets(c, 1), Due.BEYOND);
            Due.is("20 no carrier", x.cheapest(c, 0), Due.BEYOND);
            Due.is("21 no carrier", x.which(c, 0), Due.BEYOND);
            Due.is("20 no ware", x.cheapest(0, c == 2 ? 1 : c), Due.BEYOND);
            Due.is("21 no ware", x.which(0, c == 2 ? 1 : c), Due.BEYOND);
            Due.is("23 no carrier", x.joined(c, 1), Due.BEYOND);
            Due.is("24 no carrier", x.shared(0, c, 1), Due.BEYOND);
            Due.is("24 no carrier", x.shared(c, 0, 1), Due.BEYOND);
            Due.is("25 no carrier", x.part(0, c, 1), Due.BEYOND);
            Due.is("25 no carrier", x.part(c, 0, 1), Due.BEYOND);
            Due.is("26 no carrier", x.strength(c, 1), Due.BEYOND);
            Due.is("27 no carrier", x.kindFor(c, 1), Due.BEYOND);
        }
        Due.is("24 one and the same", x.shared(1, 1, 1), Due.BEYOND);
        Due.is("25 one and the same", x.part(1, 1, 1), Due.BEYOND);
        Due.is("18 four of six, two and two", x.round(0, 27), 19);
        Due.is("18 not six but five", x.round(1, 31), Due.NONE);
    }

    private static void states() {
        CarryFair x = Due.fair("carrier;carrier", LINE, ERRANDS, "ware 10;ware 5");
        x.take(0, 0);
        for (int c = 0; c <= 1; c++) {
            int set = c == 0 ? 2 : 3; // carrier 0 carries something; errand 0 doesn't lie
            Due.is("18 state", x.round(c, set), Due.STATE);
            Due.is("23 state", x.joined(c, set), Due.STATE);
            Due.is("26 state", x.strength(c, set), Due.STATE);
            Due.is("27 state", x.kindFor(c, set), Due.STATE);
            Due.is("24 state", x.shared(c, 1 - c, 2), Due.STATE);
            Due.is("25 state", x.part(c, 1 - c, 2), Due.STATE);
        }
        Due.is("20 state", x.cheapest(0, 0), Due.STATE);
        Due.is("21 state", x.which(0, 0), Due.STATE);
        Due.is("22 state", x.who(1), Due.STATE);
        Due.is("22 one that carries nothing", x.who(2), 1);
        Due.is("22 empty", x.who(0), 1);
        x.walk(0, 2);
        Due.is("18 done", x.round(0, 1), Due.STATE);
        Due.is("24 done", x.shared(0, 1, 1), Due.STATE);
        Due.is("25 done", x.part(0, 1, 1), Due.STATE);
        x.buy(0, 1);
        Due.is("20 sold", x.cheapest(1, 1), Due.STATE);
        Due.is("21 sold", x.which(1, 1), Due.STATE);
    }

    private static void gets() {
        CarryFair x = Due.fair("carrier strong 1", LINE, "errand 9 from 0 to 1;errand 13 from 1 to 2;errand 1 from 0 to 6");
        int[] gets = {57, 57, 28, 61, 30, 57, 57}; // worths 18 and 39
        for (int kind = 0; kind <= 6; kind++) {
            x.change(0, 0, kind);
            Due.is("19 kind " + kind, x.gets(0, 3), gets[kind]);
            Due.is("19 empty", x.gets(0, 0), 0);
            Due.is("19 no worth", x.gets(0, 4), Due.NONE);
            Due.is("19 no worth with others", x.gets(0, 7), Due.NONE);
        }
        x.change(0, 2, 99);
        x.take(0, 0);
        Due.is("19 carried too", x.gets(0, 3), 57);
        x.walk(0, 1);
        Due.is("19 done too", x.gets(0, 3), 57);
    }

    /** Worths 50, 110; the third is too heavy. */
    private static void earning() {
        CarryFair x = Due.fair("carrier", LINE, ERRANDS, "ware 50;ware 51;ware 110;ware 111;ware 160;ware 161");
        int[] yards = {5, 13, 13, 13, 13, Due.NONE};
        int[] sets = {1, 2, 2, 3, 3, Due.NONE};
        for (int w = 0; w < 6; w++) {
            Due.is("20 ware " + w, x.cheapest(0, w), yards[w]);
            Due.is("21 ware " + w, x.which(0, w), sets[w]);
        }
        x.change(0, 3, 1);
        Due.is("20 with what it has", x.cheapest(0, 5), 13);
        Due.is("20 with what it has", x.cheapest(0, 1), 5);
        Due.is("21 with what it has", x.which(0, 5), 3);
        x.change(0, 3, 50);
        Due.is("20 1 too little", x.cheapest(0, 1), 5);
        Due.is("21 1 too little", x.which(0, 1), 1);
        x.change(0, 3, 51);
        Due.is("20 empty", x.cheapest(0, 1), 0);
        Due.is("21 empty", x.which(0, 1), 0);
        x.change(0, 3, 999999);
        Due.is("20 empty", x.cheapest(0, 5), 0);
        // eight as light: no more than five of them in one set
        CarryFair y = Due.fair("carrier strong 99;way 0 1 yards 1", "errand 1 from 0 to 1;errand 1 from 0 to 1",
            "errand 1 from 0 to 1;errand 1 from 0 to 1;errand 1 from 0 to 1;errand 1 from 0 to 1",
            "errand 1 from 0 to 1;errand 1 from 0 to 1;ware 5;ware 6");
        Due.is("20 five", y.cheapest(0, 0), 1);
        Due.is("21 five", y.which(0, 0), 31);
        Due.is("20 six", y.cheapest(0, 1), Due.NONE);
        Due.is("21 six", y.which(0, 1), Due.NONE);
        y.take(0, 1);
        y.walk(0, 1);
        Due.is("21 those that lie", y.which(0, 0), 29);
    }

    private static void earningOfKinds() {
        CarryFair x = Due.fair("paired;cheating;handed", LINE, "errand 10 from 0 to 1;errand 5 from 1 to 2",
            "ware 17;ware 39;ware 19");
        Due.is("21 paired", x.which(0, 0), 3);
        Due.is("21 cheating", x.which(1, 1), Due.NONE);
        x.change(1, 3, 1);
        Due.is("21 cheating", x.which(1, 1), 3);
        Due.is("21 handed", x.which(2, 2), 3);
        Due.is("20 paired", x.cheapest(0, 2), Due.NONE);
    }

    private static void who() {
        CarryFair x = Due.fair("carrier at 1;carrier strong 15;watery at 0;watery at 0;carrier at 6", LINE, ERRANDS);
        Due.is("22 who", x.who(2), 2);
        x.change(2, 0, 0);
        x.change(3, 0, 0);
        Due.is("22 who", x.who(2), 0);
        Due.is("22 first of as short", x.who(1), 1);
        Due.is("22 of both", x.who(3), 2);
        Due.is("22 nobody", x.who(4), Due.NONE);
        x.take(2, 0);
        Due.is("22 of those that carry nothing", x.who(2), 0);
        Due.is("22 no carriers", new CarryFair().who(0), Due.NONE);
        Due.is("22 no errands", new CarryFair().who(1), Due.BEYOND);
    }

    private static void joined() {
        CarryFair x = Due.fair("carrier", LINE, ERRANDS);
        Due.is("23 empty", x.joined(0, 0), 0);
        Due.is("23 one: the way back", x.joined(0, 1), 5);
        Due.is("23 both", x.joined(0, 3), 5 + 5 + 13 + 13 - 13);
        Due.is("23 none", x.joined(0, 4), Due.NONE);
        x.change(0, 2, 19);
        Due.is("23 one behind the other", x.joined(0, 3), 5 + 5 + 13 + 13 - 19);
        x.change(0, 1, 2);
        Due.is("23 from elsewhere", x.joined(0, 1), 0);
    }

    private static void shared() {
        CarryFair x = Due.fair("carrier;carrier at 3", LINE, ERRANDS);
        Due.is("24 one does all", x.shared(0, 1, 3), 13);
        Due.is("25 one does all", x.part(0, 1, 3), 3);
        Due.is("25 the other does all", x.part(1, 0, 3), 0);
        Due.is("24 empty", x.shared(0, 1, 0), 0);
        Due.is("25 empty", x.part(0, 1, 0), 0);
        Due.is("24 none", x.shared(0, 1, 4), Due.NONE);
        Due.is("25 none", x.part(0, 1, 7), Due.NONE);
        x.change(1, 2, 21);
        Due.is("24 each a part", x.shared(0, 1, 7), 21);
        Due.is("25 each a part", x.part(0, 1, 7), 3);
        Due.is("25 each a part", x.part(1, 0, 7), 4);
        x.change(1, 1, 0);
        x.change(1, 2, 20);
        Due.is("25 as good: the least", x.part(0, 1, 3), 0);
        Due.is("25 as good: the least", x.part(1, 0, 3), 0);
    }

    private static void strengths() {
        CarryFair x = Due.fair("carrier", LINE, ERRANDS, "errand 50 from 0 to 1;errand 49 from 0 to 1;errand 1 from 6 to 0");
        Due.is("26 empty", x.strength(0, 0), 1);
        Due.is("26 both", x.strength(0, 3), 10);
        Due.is("26 all three", x.strength(0, 7), 21);
        Due.is("26 no ways", x.strength(0, 32), Due.NONE);
        x.change(0, 0, 3);
        Due.is("26 cheating", x.strength(0, 7), 42);
        Due.is("26 cheating at most", x.strength(0, 16), 98);
        Due.is("26 more than that", x.strength(0, 8), Due.NONE);
        x.change(0, 0, 4);
        Due.is("26 handed", x.strength(0, 7), 11);
        Due.is("26 its own stays", x.of(0, 2), 20);
        x.change(0, 1, 6);
        Due.is("26 no ways", x.strength(0, 1), Due.NONE);
        Due.is("26 empty", x.strength(0, 0), 1);
    }

    private static void kinds() {
        CarryFair x = Due.fair("carrier", LINE, ERRANDS);
        Due.is("27 boated", x.kindFor(0, 3), 6);
        Due.is("27 carrier", x.kindFor(0, 1), 0);
        Due.is("27 empty", x.kindFor(0, 0), 0);
        Due.is("27 paired", x.kindFor(0, 4), 2);
        x.change(0, 2, 10);
        x.change(0, 0, 6);
        x.way(2, 3, 4, 0);
        Due.is("27 paired bears both", x.kindFor(0, 3), 2);
        Due.is("27 its own stays", x.of(0, 0), 6);
        Due.is("27 none", x.kindFor(0, 4), Due.NONE);
        x.change(0, 1, 5);
        Due.is("27 no ways", x.kindFor(0, 1), Due.NONE);
    }
}
