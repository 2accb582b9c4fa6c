/** Promises 33 to 35: draws. */
public final class DrawTest {
    public static void main(String[] args) {
        seeds();
        findings();
        oneCarrier();
        oneTurn();
        manyTurns();
        Due.end();
    }

    private static void seeds() {
        CarryFair x = new CarryFair();
        Due.is("35 at first", x.seed(-1000001), 1);
        Due.is("35 any int", x.seed(Integer.MIN_VALUE), -1000001);
        Due.is("49 z", x.count(6), Integer.MIN_VALUE);
        x.seed(-1000003);
        Due.is("49 z like a finding", x.count(6), -1000003);
        Due.is("50 z is no finding", x.status(-1), 0);
    }

    private static void findings() {
        CarryFair x = new CarryFair();
        Due.is("33 beyond ahead of state", x.day(0), Due.BEYOND);
        Due.is("33 beyond", x.day(13), Due.BEYOND);
        Due.is("34 beyond", x.ahead(0), Due.BEYOND);
        Due.is("34 beyond", x.ahead(13), Due.BEYOND);
        Due.is("33 no carriers", x.day(1), Due.STATE);
        Due.is("34 no carriers", x.ahead(12), Due.STATE);
        Due.is("33 z stays", x.count(6), 1);
    }

    private static void oneCarrier() {
        CarryFair x = Due.fair("carrier;way 0 1 yards 3;errand 6 from 0 to 1");
        x.seed(seedFor(1, 0, 1));
        Due.is("34 one carrier", x.ahead(1), 1);
        Due.is("33 one carrier", x.day(1), 1);
        CarryFair y = Due.fair("carrier;carrier;way 0 1 yards 3;errand 6 from 0 to 1;errand 7 from 0 to 1");
        y.take(1, 1);
        y.seed(seedFor(2, 0, 1));
        Due.is("34 what another one carries stays so", y.ahead(1), 1);
        y.seed(seedFor(2, 1, 1));
        Due.is("34 what it carries already", y.ahead(1), 2);
    }

    private static int afterDraws(int z, int draws) {
        int now = z;
        for (int i = 0; i < draws; i++) {
            now = now * 1103515245 + 12345;
        }
        return now;
    }

    /** A seed from which the next two draws leave such rests. */
    private static int seedFor(int carriers, int carrier, int place) {
        for (int z = 0; z < 100000; z++) {
            if ((afterDraws(z, 1) >>> 8) % carriers == carrier && (afterDraws(z, 2) >>> 8) % 7 == place) {
                return z;
            }
        }
        return -1;
    }

    private static void oneTurn() {
        CarryFair x = Due.fair("carrier;carrier;carrier strong 10;way 0 4 yards 3;way 4 5 yards 2",
            "errand 6 from 0 to 4;errand 5 from 0 to 4;errand 4 from 0 to 4;errand 1 from 0 to 5");
        int z = seedFor(3, 2, 4);
        x.seed(z);
        String before = Due.stateOf(x);
        Due.is("34 ahead", x.ahead(1), 2);
        Due.same("34 ahead", Due.stateOf(x), before);
        Due.is("33 day", x.day(1), 2);
        Due.is("33 two draws", x.count(6), afterDraws(z, 2));
        Due.is("33 by numbers, as it bears them", x.now(1), 5);
        Due.is("33 too heavy", x.now(0), 10);
        Due.is("33 it walked", x.of(2, 4), 3);
        Due.is("33 it gets", x.of(2, 3), 30);
        int toNowhere = seedFor(3, 0, 1);
        x.seed(toNowhere);
        Due.is("33 no ways", x.day(1), 0);
        Due.is("33 taken up all the same", x.of(0, 6), 10);
        Due.is("33 stays", x.of(0, 1), 0);
        Due.is("33 two draws", x.count(6), afterDraws(toNowhere, 2));
        x.seed(seedFor(3, 0, 5));
        Due.is("33 the rest", x.day(1), 1);
        Due.is("33 what goes elsewhere is carried on", x.of(0, 6), 2);
    }

    /** Twelve turns by hand, with the calls that they are made of. */
    private static void manyTurns() {
        String[] texts = {"carrier;old at 2;boated at 3 strong 40;way 0 1 yards 3;way 1 2 yards 2 river;way 2 3 yards 7",
            "way 3 4 yards 1;way 5 6 yards 9;errand 6 from 0 to 4;errand 5 from 2 to 1;errand 14 from 3 to 2",
            "errand 3 from 2 to 0;errand 2 from 3 to 6;errand 1 from 4 to 3;errand 9 from 1 to 0"};
        for (int z = 1; z < 400; z += 7) {
            CarryFair x = Due.fair(texts);
            CarryFair y = Due.fair(texts);
            x.seed(z * 1000003);
            y.seed(z * 1000003);
            int draw = z * 1000003;
            for (int n = 0; n < 12; n++) {
                draw = afterDraws(draw, 1);
                int c = (draw >>> 8) % 3;
                for (int e = 0; e < 7; e++) {
                    y.take(c, e);
                }
                draw = afterDraws(draw, 1);
                y.walk(c, (draw >>> 8) % 7);
            }
            y.seed(draw);
            int done = Integer.bitCount(y.now(1));
            Due.is("34 ahead of 12", x.ahead(12), done);
            Due.is("33 day of 12", x.day(12), done);
            Due.same("33 day of 12", Due.stateOf(x), Due.stateOf(y));
            Due.is("33 another day: no more", x.day(1) + done, Integer.bitCount(x.now(1)));
        }
    }
}
