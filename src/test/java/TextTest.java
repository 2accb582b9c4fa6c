/** Promises 36 to 38: texts. */
public final class TextTest {
    public static void main(String[] args) {
        feeds();
        tokens();
        items();
        faults();
        ends();
        tooMany();
        nothingChanges();
        Due.end();
    }

    private static void feeds() {
        CarryFair x = new CarryFair();
        Due.is("36 beyond", x.feed(65, 0), Due.BEYOND);
        Due.is("36 beyond", x.feed(65, 5), Due.BEYOND);
        Due.is("36 beyond", x.feed(65, -1), Due.BEYOND);
        Due.is("37 empty", x.wipe(), 0);
        // "ware 7": the lowest bytes, the highest of these first
        Due.is("36 two", x.feed(0x12347761, 2), 2);
        Due.is("36 three", x.feed(0xff726520, 3), 5);
        Due.is("36 one", x.feed(0x55555537, 1), 6);
        Due.is("49 bytes", x.count(5), 6);
        Due.is("38 text", x.text(), 1);
        Due.is("49 bytes", x.count(5), 0);
        Due.is("10 price", x.wareOf(0, 0), 7);
        Due.is("36 four", x.feed(0x77617265, 4), 4);
        Due.is("37 wipe", x.wipe(), 4);
        Due.is("37 wiped", x.count(5), 0);
        for (int i = 0; i < 29; i++) {
            x.feed(0x20202020, 4);
        }
        Due.is("36 one", x.feed(32, 1), 117);
        Due.is("36 full", x.feed(0x20202020, 4), Due.FULL);
        Due.is("36 nothing fed", x.count(5), 117);
        Due.is("36 the last", x.feed(0x202020, 3), 120);
        Due.is("36 full", x.feed(0, 1), Due.FULL);
        Due.is("36 beyond ahead of full", x.feed(0, 0), Due.BEYOND);
        Due.is("38 blanks alone", x.text(), -121);
        Due.is("50 a fault is no finding", x.status(-1), 6);
    }

    private static void tokens() {
        CarryFair x = new CarryFair();
        Due.is("38 no blanks", Due.tell(x, "carrier at3strong5;way0 1yards0009river;ware00000000000000000012"), 3);
        Due.is("38 place", x.of(0, 1), 3);
        Due.is("38 strength", x.of(0, 2), 5);
        Due.is("38 yards", x.wayOf(0, 1, 0), 9);
        Due.is("38 river", x.wayOf(0, 1, 1), 1);
        Due.is("38 price", x.wareOf(0, 0), 12);
        Due.is("38 blanks", Due.tell(x, "   old   ;  ware   9999   "), 2);
        Due.is("38 a number too long", Due.tell(x, "ware 4294967297"), -6);
        Due.is("38 a number too long", Due.tell(x, "ware 18446744073709551617"), -6);
        Due.is("38 words as long as can be", Due.tell(x, "carrierat 3"), -1);
        Due.is("38 words as long as can be", Due.tell(x, "carrier atstrong 3"), -9);
        Due.is("38 a byte that begins no token", Due.tell(x, "old,"), -4);
        Due.is("38 a byte that begins no token", Due.tell(x, "Old"), -1);
        Due.is("38 a byte that begins no token", Due.tell(x, "old\tat 3"), -4);
        Due.is("38 a byte that begins no token", Due.tell(x, "old\n"), -4);
        Due.is("38 a byte that begins no token", Due.tell(x, "ware -1"), -6);
        Due.is("38 a byte that begins no token", Due.tell(x, "ware \u00e9"), -6);
        Due.is("38 a byte that begins no token", Due.tell(x, "ware \u0000"), -6);
        Due.is("38 a byte in a number", Due.tell(x, "ware 3:4"), -7);
        Due.is("38 a byte in a number", Due.tell(x, "ware 3/4"), -7);
        Due.is("38 a byte in a word", Due.tell(x, "ol`d"), -1);
        Due.is("38 a byte behind a word", Due.tell(x, "old{"), -4);
        Due.is("38 a z behind a word", Due.tell(x, "oldz"), -1);
        Due.is("38 another first letter", Due.tell(x, "ald"), -1);
        Due.is("38 another last letter", Due.tell(x, "ole"), -1);
    }

    private static void items() {
        CarryFair x = new CarryFair();
        Due.is("38 six carriers", Due.tell(x, "carrier;old at 6;paired strong 99;cheating at 1 strong 1;handed;watery"), 6);
        int[] places = {0, 6, 0, 1, 0, 0};
        int[] strengths = {20, 20, 99, 1, 20, 20};
        for (int c = 0; c < 6; c++) {
            Due.is("38 kind", x.of(c, 0), c);
            Due.is("38 place", x.of(c, 1), places[c]);
            Due.is("38 strength", x.of(c, 2), strengths[c]);
            Due.is("38 earned", x.of(c, 3), 0);
        }
        CarryFair y = Due.fair("boated;way 6 0 yards 99 river;errand 60 from 0 to 6;ware 1");
        Due.is("38 boated", y.of(0, 0), 6);
        Due.is("38 yards", y.wayOf(0, 6, 0), 99);
        Due.is("38 river", y.wayOf(0, 6, 1), 1);
        Due.is("38 pounds", y.errandOf(0, 0), 60);
        Due.is("38 from", y.errandOf(0, 1), 0);
        Due.is("38 to", y.errandOf(0, 2), 6);
        Due.is("38 lies", y.errandOf(0, 3), 0);
        Due.is("38 far at once", y.far(0, 0, 6), 49);
        Due.is("38 price", y.wareOf(0, 0), 1);
        Due.is("38 sold not", y.wareOf(0, 1), -1);
        Due.is("38 item by item", Due.tell(y, "way 0 6 yards 5;way 6 0 yards 0 river;way 1 2 yards 3"), 3);
        Due.is("38 the later one", y.wayOf(0, 6, 0), 0);
        Due.is("38 far at once", y.far(0, 0, 6), Due.NONE);
        Due.is("38 no river", y.wayOf(1, 2, 1), 0);
    }

    private static void faults() {
        Object[][] faults = {
            {"at 3", 0}, {"3", 0}, {";", 0}, {"river", 0}, {"carriers", 0}, {"carrie", 0},
            {"old;;old", 4}, {"old old", 4}, {"old 3", 4}, {"old;at", 4}, {"old at 3 at 3", 9}, {"old at 7", 7},
            {"old at strong", 7}, {"old at ;", 7}, {"old strong 0", 11}, {"old strong 100", 11}, {"old strong 3 at 3", 13},
            {"old strong at", 11}, {"old strong 3 strong 3", 13}, {"old river", 4},
            {"way 7 0 yards 1", 4}, {"way 0 7 yards 1", 6}, {"way 5 5 yards 1", 6}, {"way 0 ; yards 1", 6}, {"way yards 1", 4},
            {"way 0 1 at 1", 8}, {"way 0 1 2", 8}, {"way 0 1 yards 100", 14}, {"way 0 1 yards river", 14},
            {"way 0 1 yards 1 river river", 22}, {"way 0 1 yards 1 land", 16}, {"way 0 1 yards 1 river 3", 22},
            {"errand 0 from 0 to 1", 7}, {"errand 61 from 0 to 1", 7}, {"errand from 0 to 1", 7}, {"errand 5 0 to 1", 9},
            {"errand 5 from 7 to 1", 14}, {"errand 5 from to 1", 14}, {"errand 5 from 0 from 1", 16},
            {"errand 5 from 0 to 0", 19}, {"errand 5 from 0 to 7", 19}, {"errand 5 from 0 to to", 19},
            {"errand 5 from 0 to 1 river", 21}, {"errand 5 to 1 from 0", 9},
            {"ware 0", 5}, {"ware 10000", 5}, {"ware old", 5}, {"ware ;", 5}, {"ware 3 3", 7}, {"ware 3 river", 7},
        };
        for (Object[] fault : faults) {
            CarryFair x = new CarryFair();
            Due.is("38 " + fault[0], Due.tell(x, (String) fault[0]), -1 - (Integer) fault[1]);
            Due.is("38 tape", x.count(5), 0);
            Due.is("38 nothing came", x.count(0) + x.count(1) + x.count(2), 0);
        }
    }

    private static void ends() {
        String[] texts = {"", "  ", "old;", "old; ", "old at", "old at ", "old strong", "way", "way 0", "way 0 1", "way 0 1 yards",
            "way 0 1 yards   ", "errand", "errand 5", "errand 5 from", "errand 5 from 0", "errand 5 from 0 to", "ware"};
        CarryFair x = new CarryFair();
        for (String text : texts) {
            Due.is("38 ends too early: " + text, Due.tell(x, text), -1 - text.length());
        }
    }

    private static void tooMany() {
        CarryFair x = Due.fair("old;old;old;old");
        Due.is("38 a 7th carrier", Due.tell(x, "old;old; watery at 3"), -10);
        Due.is("38 its own, though more is wrong", Due.tell(x, "old;old;boated at 7"), -9);
        Due.is("38 no 7th word but a fault ahead", Due.tell(x, "old;old;boat"), -9);
        Due.is("38 two more", Due.tell(x, "old;old"), 2);
        Due.is("38 a 7th carrier", Due.tell(x, "carrier"), -1);
        Due.is("38 errands", Due.tell(x, "errand 1 from 0 to 1;errand 1 from 0 to 1;errand 1 from 0 to 1"), 3);
        Due.is("38 errands", Due.tell(x, "errand 1 from 0 to 1;errand 1 from 0 to 1;errand 1 from 0 to 1"), 3);
        Due.is("38 a 9th errand", Due.tell(x, "errand 1 from 0 to 1;errand 1 from 0 to 1;errand 1 from 0 to 1"), -43);
        Due.is("38 an 8th errand", Due.tell(x, "errand 1 from 0 to 1;errand 1 from 0 to 1"), 2);
        Due.is("38 a 9th errand", Due.tell(x, "errand"), -1);
        Due.is("38 a 7th ware", Due.tell(x, "ware 1;ware 1;ware 1;ware 1;ware 1;ware 1;ware 0"), -43);
        Due.is("38 six wares", Due.tell(x, "ware 1;ware 1;ware 1;ware 1;ware 1;ware 1"), 6);
        Due.is("38 a 7th ware", Due.tell(x, " ware 1"), -2);
    }

    private static void nothingChanges() {
        CarryFair x = Due.fair("old at 1;way 0 1 yards 2;ware 5;errand 3 from 1 to 0");
        x.take(0, 0);
        x.hold(4, 0);
        x.seed(77);
        String before = Due.stateOf(x);
        Due.is("38 fault", Due.tell(x, "old;way 0 1 yards 9;ware 7;errand 9 from 0 to 1;old at 9"), -56);
        Due.same("38 fault", Due.stateOf(x), before);
        Due.is("11 far as it was", x.far(0, 0, 1), 2);
    }
}
