import java.util.function.ToIntFunction;

/** The edges of promises 11 to 17, and of what the terms tell of far, worth, taking up and walking. */
public final class EdgeWalkTest {
    private static final int MIN = Integer.MIN_VALUE;
    private static final int MAX = Integer.MAX_VALUE;

    public static void main(String[] args) {
        carriersAndPlacesBeyond();
        fars();
        yardsOfOneWay();
        fewestYards();
        firsts();
        takesBeyond();
        takesRefused();
        takesFull();
        dropsRefused();
        drops();
        walks();
        walksToItsOwnPlace();
        whatItGets();
        noWaysFromThere();
        buysRefused();
        buys();
        nows();
        Due.end();
    }

    private static void beyond(String sentence, ToIntFunction<CarryFair> call) {
        Edge.refused(sentence, Edge::rich, call, Due.BEYOND);
    }

    private static void carriersAndPlacesBeyond() {
        int[] carriers = {-1, 4, MIN, MAX};
        for (int c : carriers) {
            beyond("11 BEYOND: carrier " + c, x -> x.far(c, 0, 0));
            beyond("11 BEYOND ahead of NONE: carrier " + c, x -> x.far(c, 0, 6));
            beyond("12 BEYOND: carrier " + c, x -> x.first(c, 0));
            beyond("12 BEYOND ahead of NONE: carrier " + c, x -> x.first(c, 6));
            beyond("15 BEYOND: carrier " + c, x -> x.walk(c, 0));
            beyond("15 BEYOND ahead of NONE: carrier " + c, x -> x.walk(c, 6));
        }
        int[] places = {-1, 7, MIN, MAX};
        for (int p : places) {
            beyond("11 BEYOND: from " + p, x -> x.far(0, p, 0));
            beyond("11 BEYOND: to " + p, x -> x.far(0, 0, p));
            beyond("11 BEYOND ahead of NONE: from " + p, x -> x.far(0, p, 6));
            beyond("11 BEYOND: both " + p, x -> x.far(0, p, p));
            beyond("12 BEYOND: to " + p, x -> x.first(0, p));
            beyond("15 BEYOND: to " + p, x -> x.walk(0, p));
            beyond("15 BEYOND: carrier and to " + p, x -> x.walk(p, p));
        }
    }

    private static void fars() {
        for (int p = 0; p < 7; p++) {
            int place = p;
            Edge.asked("T far is 0 to itself: " + p, Edge::rich, x -> x.far(0, place, place), 0);
        }
        Edge.refused("11 NONE: no ways", Edge::rich, x -> x.far(0, 0, 6), Due.NONE);
        Edge.refused("11 NONE: no ways back", Edge::rich, x -> x.far(0, 6, 0), Due.NONE);
        Edge.asked("11 far of the last carrier", Edge::rich, x -> x.far(3, 0, 3), 15);
        Edge.asked("11 far from elsewhere than its place", Edge::rich, x -> x.far(3, 3, 1), 11);
        Edge.asked("11 boated", Edge::rich, x -> x.far(2, 0, 3), 10);
        CarryFair x = Due.fair("carrier;way 0 1 yards 99 river;way 1 2 yards 99 river;way 2 3 yards 99 river",
            "way 3 4 yards 99 river;way 4 5 yards 99 river;way 5 6 yards 99 river");
        int[] six = {6 * 198, 6 * 198, 6 * 198, 6 * 198, 6 * 198, 6 * 99, 6 * 49};
        for (int kind = 0; kind <= 6; kind++) {
            x.change(0, 0, kind);
            Due.is("11 the most yards of kind " + kind, x.far(0, 0, 6), six[kind]);
            Due.is("11 the most yards of kind " + kind, x.far(0, 6, 0), six[kind]);
        }
        x.way(3, 4, 0, 0);
        Due.is("11 NONE: a way less", x.far(0, 0, 6), Due.NONE);
    }

    /** COUNTS: by land, and by a river of 1, 2, 3, 4 and 99 yards. */
    private static void yardsOfOneWay() {
        int[] yards = {1, 2, 3, 4, 99};
        int[] onFoot = {2, 4, 6, 8, 198};
        int[] boated = {1, 1, 1, 2, 49};
        for (int kind = 0; kind <= 6; kind++) {
            for (int i = 0; i < yards.length; i++) {
                CarryFair x = new CarryFair();
                x.carrier(kind);
                x.way(0, 1, yards[i], 0);
                Due.is("T by land, kind " + kind, x.far(0, 0, 1), yards[i]);
                x.way(0, 1, yards[i], 1);
                Due.is("T by a river, kind " + kind, x.far(0, 1, 0), kind == 5 ? yards[i] : kind == 6 ? boated[i] : onFoot[i]);
            }
        }
    }

    /** A row of two ways and one straight way: just fewer, as many, just more. */
    private static void fewestYards() {
        for (int straight = 9; straight <= 11; straight++) {
            CarryFair x = Due.fair("carrier;way 6 0 yards 4;way 0 5 yards 6;errand 2 from 6 to 5");
            x.way(5, 6, straight, 0);
            x.change(0, 1, 6);
            Due.is("T the fewest yards on any row", x.far(0, 6, 5), Math.min(straight, 10));
            Due.is("T worth by these", x.errandOf(0, 5), 2 * Math.min(straight, 10));
            Due.is("12 of several the least", x.first(0, 5), straight == 9 ? 5 : 0);
            Due.is("15 by a row of fewest yards", x.walk(0, 5), 0);
            Due.is("15 walked is so many more", x.of(0, 4), Math.min(straight, 10));
        }
    }

    private static void firsts() {
        for (int p = 0; p < 7; p++) {
            int place = p;
            Edge.asked("12 its own: that", () -> {
                CarryFair x = Edge.rich();
                x.change(0, 1, place);
                return x;
            }, x -> x.first(0, place), p);
        }
        Edge.asked("12 the last carrier", Edge::rich, x -> x.first(3, 3), 1);
        Edge.refused("12 NONE", Edge::rich, x -> x.first(0, 6), Due.NONE);
        Edge.refused("12 NONE", Edge::rich, x -> x.first(0, 5), Due.NONE);
        // from 3 to 6 by 0, 2 and 5 alike, then by none of 0 and 2
        CarryFair x = Due.fair("carrier at 3;way 3 5 yards 1;way 5 6 yards 3;way 3 2 yards 2;way 2 6 yards 2;way 3 0 yards 3",
            "way 0 6 yards 1");
        Due.is("12 of three the least", x.first(0, 6), 0);
        x.way(0, 6, 2, 0);
        Due.is("12 of two the least", x.first(0, 6), 2);
        x.way(2, 6, 1, 1);
        Due.is("12 still two, one by a river", x.first(0, 6), 2);
        x.way(2, 6, 3, 0);
        Due.is("12 one row alone", x.first(0, 6), 5);
        x.way(3, 6, 4, 0);
        Due.is("12 as far straight, the least", x.first(0, 6), 5);
        x.way(3, 6, 3, 0);
        Due.is("12 straight", x.first(0, 6), 6);
        x.way(3, 6, 2, 1);
        x.way(5, 6, 4, 0);
        Due.is("12 straight by a river", x.first(0, 6), 6);
    }

    private static void takesBeyond() {
        int[][] others = {{-1, 1}, {4, 1}, {MIN, 1}, {MAX, 1}, {0, -1}, {0, 5}, {0, MIN}, {0, MAX}, {-1, -1}, {4, 5}};
        for (int[] o : others) {
            beyond("13 BEYOND: " + o[0] + " " + o[1], x -> x.take(o[0], o[1]));
            beyond("14 BEYOND: " + o[0] + " " + o[1], x -> x.drop(o[0], o[1]));
        }
        beyond("13 BEYOND ahead of STATE: no carrier, one that is done", x -> x.take(4, 3));
        beyond("14 BEYOND ahead of STATE: no carrier, one that lies", x -> x.drop(4, 1));
        Edge.refused("13 BEYOND: no carriers, no errands", CarryFair::new, x -> x.take(0, 0), Due.BEYOND);
        Edge.refused("14 BEYOND: no carriers, no errands", CarryFair::new, x -> x.drop(0, 0), Due.BEYOND);
    }

    private static void takesRefused() {
        Edge.refused("13 STATE: it lies elsewhere", Edge::rich, x -> x.take(0, 0), Due.STATE);
        Edge.refused("13 STATE: it lies where the carrier was", Edge::rich, x -> x.take(2, 1), Due.STATE);
        Edge.refused("13 STATE: another one carries it", Edge::rich, x -> x.take(0, 2), Due.STATE);
        Edge.refused("13 STATE: it carries it itself", Edge::rich, x -> x.take(1, 2), Due.STATE);
        Edge.refused("13 STATE: it has done it", Edge::rich, x -> x.take(2, 3), Due.STATE);
        Edge.refused("13 STATE: it was done, and the carrier is where it lay", () -> {
            CarryFair x = Edge.rich();
            x.walk(2, 2);
            return x;
        }, x -> x.take(2, 3), Due.STATE);
        Edge.refused("13 STATE ahead of FULL", () -> {
            CarryFair x = Edge.rich();
            x.change(3, 1, 1);
            return x;
        }, x -> x.take(3, 4), Due.STATE);
        Edge.refused("13 FULL: one pound more than it bears", Edge::rich, x -> x.take(3, 4), Due.FULL);
        Edge.refused("13 FULL: with what it carries", Edge::rich, x -> x.take(1, 4), Due.FULL);
        CarryFair x = Edge.rich();
        Edge.taken("13 one that bears it", x, y -> y.take(0, 4), 21);
        Edge.taken("13 and another", x, y -> y.take(0, 1), 26);
        Due.is("13 carries", x.of(0, 6), 18);
        Due.is("13 carried", x.errandOf(4, 3), 1);
        Due.is("13 by it", x.errandOf(4, 4), 0);
        Due.is("13 it lies no more", x.now(0), 1);
    }

    /** As much as each kind bears with strength 7 by two errands, the second a pound too much and just right. */
    private static void takesFull() {
        int[] bears = {7, 3, 14, 3, 14, 7, 7};
        for (int kind = 0; kind <= 6; kind++) {
            int most = bears[kind];
            int it = kind;
            Edge.refused("13 FULL, kind " + kind, () -> two(it, 2, most - 1), x -> x.take(0, 1), Due.FULL);
            Edge.taken("13 no more than it bears, kind " + kind, two(kind, 2, most - 2), x -> x.take(0, 1), most);
            CarryFair x = new CarryFair();
            x.carrier(kind);
            x.change(0, 2, 7);
            x.errand(most + 1, 0, 1);
            x.errand(most, 0, 1);
            Due.is("13 FULL, one alone, kind " + kind, x.take(0, 0), Due.FULL);
            Due.is("13 one alone, kind " + kind, x.take(0, 1), most);
        }
        CarryFair old = Due.fair("old strong 1;errand 1 from 0 to 1");
        Due.is("13 FULL: it bears nothing", old.take(0, 0), Due.FULL);
        CarryFair x = Due.fair("carrier strong 60;errand 60 from 0 to 1");
        Due.is("13 the heaviest", x.take(0, 0), 60);
    }

    private static CarryFair two(int kind, int first, int second) {
        CarryFair x = new CarryFair();
        x.carrier(kind);
        x.change(0, 2, 7);
        x.errand(first, 0, 1);
        x.errand(second, 0, 1);
        x.take(0, 0);
        return x;
    }

    private static void dropsRefused() {
        Edge.refused("14 STATE: it lies", Edge::rich, x -> x.drop(0, 1), Due.STATE);
        Edge.refused("14 STATE: another one carries it", Edge::rich, x -> x.drop(3, 2), Due.STATE);
        Edge.refused("14 STATE: it has done it, and is there", Edge::rich, x -> x.drop(2, 3), Due.STATE);
        Edge.refused("14 STATE: it has done it, and is elsewhere", () -> {
            CarryFair x = Edge.rich();
            x.walk(2, 3);
            return x;
        }, x -> x.drop(2, 3), Due.STATE);
        Edge.refused("14 STATE: it is where this goes to", () -> {
            CarryFair x = Edge.rich();
            x.change(1, 1, 2);
            return x;
        }, x -> x.drop(1, 2), Due.STATE);
        Edge.refused("14 STATE: dropped already", () -> {
            CarryFair x = Edge.rich();
            x.drop(1, 2);
            return x;
        }, x -> x.drop(1, 2), Due.STATE);
    }

    private static void drops() {
        CarryFair x = Edge.rich();
        Edge.taken("14 where it lay", x, y -> y.drop(1, 2), 0);
        Due.is("14 it carries nothing", x.of(1, 6), 0);
        Due.is("14 it lies", x.errandOf(2, 3), 0);
        Due.is("14 from where it was", x.errandOf(2, 1), 0);
        Due.is("14 nobody's", x.errandOf(2, 4), -1);
        x.take(1, 2);
        x.take(1, 1);
        Due.is("15 walks on", x.walk(1, 3), 0);
        Edge.taken("14 beyond where it goes", x, y -> y.drop(1, 2), 5);
        Due.is("14 it lies from there", x.errandOf(2, 1), 3);
        Due.is("14 its worth from there", x.errandOf(2, 5), 30);
        Due.is("14 it carries the other one", x.of(1, 6), 2);
        Due.is("14 from of the other one stays", x.errandOf(1, 1), 0);
        x.change(1, 1, 6);
        Edge.taken("14 where no ways lead", x, y -> y.drop(1, 1), 0);
        Due.is("14 it has no worth", x.errandOf(1, 5), Due.NONE);
        Due.is("14 both lie", x.now(0), 1 + 2 + 4 + 16);
    }

    private static void walks() {
        Edge.refused("15 NONE: no ways", Edge::rich, x -> x.walk(0, 6), Due.NONE);
        Edge.refused("15 NONE: no ways, with what it carries", Edge::rich, x -> x.walk(1, 4), Due.NONE);
        CarryFair x = Edge.rich();
        Edge.taken("15 with nothing", x, y -> y.walk(3, 3), 0);
        Due.is("15 walked", x.of(3, 4), 15);
        Edge.taken("15 farther than where it goes", x, y -> y.walk(1, 3), 0);
        Due.is("15 it goes by: not done", x.errandOf(2, 3), 1);
        Edge.taken("15 to where it goes", x, y -> y.walk(1, 2), 60);
        Due.is("15 done", x.errandOf(2, 3), 2);
        Due.is("15 by it", x.errandOf(2, 4), 1);
        Due.is("15 earned", x.of(1, 3), 60);
        Due.is("15 walked", x.of(1, 4), 20);
        Edge.taken("15 once alone", x, y -> y.walk(1, 2), 0);
        CarryFair all = Due.fair("paired strong 99;carrier;way 0 1 yards 5");
        Edge.many(all, "errand 3 from 0 to 1", 7);
        Edge.many(all, "errand 3 from 1 to 0", 1);
        for (int e = 0; e < 6; e++) {
            all.take(0, e);
        }
        all.take(1, 6);
        Edge.taken("15 all that it carries, half of each cut", all, y -> y.walk(0, 1), 6 * 7);
        Due.is("15 another one's isn't", all.now(1), 63);
        Due.is("15 one that lies there stays", all.errandOf(7, 3), 0);
    }

    private static void walksToItsOwnPlace() {
        CarryFair x = Edge.rich();
        Edge.taken("15 its own place", x, y -> y.walk(1, 0), 0);
        Due.is("15 not walked", x.of(1, 4), 0);
        Due.is("15 still carried", x.errandOf(2, 3), 1);
        x.change(1, 1, 2);
        Edge.taken("15 its own place, where one goes to", x, y -> y.walk(1, 2), 60);
        Due.is("15 not walked", x.of(1, 4), 0);
        Due.is("15 done", x.errandOf(2, 3), 2);
        x.change(3, 1, 6);
        Edge.taken("15 its own place without ways", x, y -> y.walk(3, 6), 0);
    }

    /** GETS for the least worths, and about where a half or a tenth is cut. */
    private static void whatItGets() {
        int[] worths = {1, 2, 3, 9, 10, 11, 19, 20, 60};
        int[] half = {0, 1, 1, 4, 5, 5, 9, 10, 30};
        int[] tenth = {1, 2, 3, 9, 11, 12, 20, 22, 66};
        for (int kind = 0; kind <= 6; kind++) {
            for (int i = 0; i < worths.length; i++) {
                CarryFair x = new CarryFair();
                x.carrier(kind);
                x.change(0, 2, 99);
                if (kind == 1 || kind == 3) {
                    // it bears 49: the heaviest goes two yards
                    x.way(0, 1, worths[i] > 49 ? 2 : 1, 0);
                    x.errand(worths[i] > 49 ? worths[i] / 2 : worths[i], 0, 1);
                } else {
                    x.way(0, 1, 1, 0);
                    x.errand(worths[i], 0, 1);
                }
                int gets = kind == 2 ? half[i] : kind == 4 ? half[i] + 1 : kind == 3 ? tenth[i] : worths[i];
                Due.is("19 gets for " + worths[i] + " as kind " + kind, x.gets(0, 1), gets);
                x.take(0, 0);
                Edge.taken("15 gets for " + worths[i] + " as kind " + kind, x, y -> y.walk(0, 1), gets);
                Due.is("15 earned", x.of(0, 3), gets);
            }
        }
        CarryFair most = Due.fair("cheating strong 99;way 0 1 yards 99 river;way 1 2 yards 99 river;errand 49 from 0 to 2");
        most.change(0, 3, 999999);
        most.take(0, 0);
        Due.is("15 gets", most.walk(0, 2), 49 * 396 + 1940);
        Due.is("15 more than can be told by change()", most.of(0, 3), 999999 + 49 * 396 + 1940);
    }

    private static void noWaysFromThere() {
        for (int kind = 0; kind <= 6; kind++) {
            CarryFair x = Due.fair("errand 5 from 0 to 1;errand 5 from 2 to 1;way 2 1 yards 3");
            x.carrier(kind);
            x.take(0, 0);
            x.change(0, 1, 2);
            x.take(0, 1);
            int[] gets = {15, 15, 7, 16, 8, 15, 15};
            Edge.taken("T nothing for it, if there are no ways from there", x, y -> y.walk(0, 1), gets[kind]);
            Due.is("T done all the same", x.now(1), 3);
            Due.is("T earned", x.of(0, 3), gets[kind]);
        }
    }

    private static void buysRefused() {
        int[][] others = {{-1, 0}, {4, 0}, {0, -1}, {0, 3}, {MIN, 0}, {MAX, 0}, {0, MIN}, {0, MAX}, {4, 3}};
        for (int[] o : others) {
            beyond("16 BEYOND: " + o[0] + " " + o[1], x -> x.buy(o[0], o[1]));
        }
        beyond("16 BEYOND ahead of STATE: no carrier, sold", x -> x.buy(-1, 1));
        Edge.refused("16 STATE: sold to another", () -> {
            CarryFair x = Edge.rich();
            x.change(0, 3, 1000);
            return x;
        }, x -> x.buy(0, 1), Due.STATE);
        Edge.refused("16 STATE: sold to itself", () -> {
            CarryFair x = Edge.rich();
            x.change(2, 3, 1000);
            return x;
        }, x -> x.buy(2, 1), Due.STATE);
        Edge.refused("16 STATE: it has earned one too little", () -> {
            CarryFair x = Edge.rich();
            x.change(2, 3, 76);
            return x;
        }, x -> x.buy(2, 0), Due.STATE);
        Edge.refused("16 STATE: it has earned nothing", Edge::rich, x -> x.buy(0, 0), Due.STATE);
        Edge.refused("16 STATE: both", Edge::rich, x -> x.buy(0, 1), Due.STATE);
    }

    private static void buys() {
        CarryFair x = Edge.rich();
        x.change(3, 3, 77);
        Edge.taken("16 for all that it has", x, y -> y.buy(3, 0), 0);
        Due.is("16 earned", x.of(3, 3), 0);
        Due.is("16 sold to it", x.wareOf(0, 1), 3);
        x.change(3, 3, 999999);
        Edge.taken("16 the last ware", x, y -> y.buy(3, 2), 990000);
        Due.is("16 all are sold", x.now(2), 7);
        CarryFair least = Due.fair("carrier;ware 1");
        least.change(0, 3, 1);
        Edge.taken("16 the least price", least, y -> y.buy(0, 0), 0);
    }

    private static void nows() {
        int[] rich = {1 + 2 + 16, 8, 2, 8, 1};
        for (int what = 0; what <= 4; what++) {
            int it = what;
            Edge.asked("17 now " + what, Edge::rich, x -> x.now(it), rich[what]);
        }
        int[] others = {-1, 5, MIN, MAX};
        for (int what : others) {
            beyond("17 BEYOND: what " + what, x -> x.now(what));
            Edge.refused("17 BEYOND: what " + what, CarryFair::new, x -> x.now(what), Due.BEYOND);
        }
        CarryFair x = Due.fair("paired strong 99;way 0 1 yards 1;ware 1;ware 1;ware 1;ware 1;ware 1;ware 1");
        Edge.many(x, "errand 2 from 0 to 1", 8);
        Due.is("17 all eight lie", x.now(0), 255);
        for (int e = 0; e < 8; e++) {
            x.take(0, e);
        }
        Due.is("17 none lies", x.now(0), 0);
        Due.is("17 none is done", x.now(1), 0);
        x.walk(0, 1);
        Due.is("17 all eight are done", x.now(1), 255);
        for (int w = 0; w < 6; w++) {
            x.buy(0, w);
        }
        Due.is("17 all six are sold", x.now(2), 63);
        Due.is("17 what is left", x.now(3), 2);
        CarryFair six = new CarryFair();
        for (int c = 0; c < 6; c++) {
            six.carrier(c);
            six.change(c, 3, 999999);
        }
        Due.is("17 earned of all six", six.now(3), 6 * 999999);
    }
}
