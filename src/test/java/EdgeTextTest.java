import java.util.function.Supplier;

/** The edges of promises 36 to 38, and of what the terms tell of texts. */
public final class EdgeTextTest {
    private static final int MIN = Integer.MIN_VALUE;
    private static final int MAX = Integer.MAX_VALUE;

    public static void main(String[] args) {
        feedsRefused();
        feeds();
        wipes();
        emptyTape();
        numbers();
        tokens();
        bytesThatBeginNone();
        oneToken();
        kindsTold();
        oneLetter();
        endsTooEarly();
        eachPlaceOfAnItem();
        options();
        seventh();
        nothingChanges();
        itemByItem();
        longestText();
        Due.end();
    }

    private static CarryFair tape(String text) {
        CarryFair x = new CarryFair();
        Due.feed(x, text);
        return x;
    }

    private static String blanks(int n) {
        return " ".repeat(n);
    }

    private static void feedsRefused() {
        int[] others = {0, 5, -1, MIN, MAX};
        for (int n : others) {
            Edge.refused("36 BEYOND: n " + n, Edge::rich, x -> x.feed(32, n), Due.BEYOND);
            Edge.refused("36 BEYOND: n " + n + ", empty", CarryFair::new, x -> x.feed(32, n), Due.BEYOND);
            Edge.refused("36 BEYOND ahead of FULL: n " + n, () -> tape("ware 7" + blanks(114)), x -> x.feed(32, n), Due.BEYOND);
        }
        for (int n = 1; n <= 4; n++) {
            for (int had = 117; had <= 120; had++) {
                int bytes = n;
                String text = "ware 7" + blanks(had - 6);
                if (had + n > 120) {
                    Edge.refused("36 FULL: " + n + " to " + had, () -> tape(text), x -> x.feed(0x20202020, bytes), Due.FULL);
                } else {
                    CarryFair x = tape(text);
                    Edge.taken("36 " + n + " to " + had, x, y -> y.feed(0x20202020, bytes), had + n);
                    Edge.taken("38 read whole", x, y -> y.text(), 1);
                }
            }
        }
    }

    private static void feeds() {
        int[] numbers = {0x20202037, 0x20203020, 0x20302020, 0x30202020, -1, MIN, 0};
        for (int n = 1; n <= 4; n++) {
            for (int had = 0; had <= 116; had += 29) {
                int bytes = n;
                int sum = had + n;
                Edge.taken("36 how many it has", tape(blanks(had)), x -> x.feed(MIN, bytes), sum);
            }
            for (int number : numbers) {
                // the n lowest of "5" and three blanks (or the like), one by one
                CarryFair one = tape("ware 4");
                CarryFair all = tape("ware 4");
                for (int i = n - 1; i >= 0; i--) {
                    one.feed(number >> 8 * i, 1);
                }
                all.feed(number, n);
                Due.is("36 the highest first: " + number, all.text(), one.text());
                Due.is("36 price", all.wareOf(0, 0), one.wareOf(0, 0));
            }
        }
        CarryFair x = new CarryFair();
        Edge.taken("36 one", x, y -> y.feed(0x61616177, 1), 1);
        Edge.taken("36 three", x, y -> y.feed(0x77617265, 3), 4);
        Edge.taken("36 two", x, y -> y.feed(0x61612037, 2), 6);
        Edge.taken("36 four", x, y -> y.feed(0x3b6f6c64, 4), 10);
        Edge.taken("38 ware 7;old", x, y -> y.text(), 2);
        Due.is("38 price", x.wareOf(0, 0), 7);
        Due.is("38 kind", x.of(0, 0), 1);
        CarryFair high = new CarryFair();
        Edge.taken("36 bytes above 127", high, y -> y.feed(0xffffff80, 4), 4);
        Edge.taken("38 they begin no token", high, y -> y.text(), -1);
    }

    private static void wipes() {
        int[] had = {0, 1, 4, 119, 120};
        for (int n : had) {
            CarryFair x = tape(blanks(n));
            Edge.taken("37 how many it had: " + n, x, y -> y.wipe(), n);
            Edge.taken("37 it is empty", x, y -> y.count(5), 0);
            Edge.taken("37 it had none", x, y -> y.wipe(), 0);
            Edge.taken("36 from its begin", x, y -> y.feed(0x6f6c64, 3), 3);
            Edge.taken("38 nothing of before", x, y -> y.text(), 1);
        }
    }

    private static void emptyTape() {
        Edge.asked("38 an empty tape: it ends too early", CarryFair::new, x -> x.text(), -1);
        Edge.taken("38 one blank: it ends too early", tape(" "), x -> x.text(), -2);
        Edge.taken("38 120 blanks: it ends too early", tape(blanks(120)), x -> x.text(), -121);
    }

    private static void text(String text, int want) {
        CarryFair x = tape(text);
        Edge.taken("38 " + text, x, y -> y.text(), want);
        Edge.taken("38 the tape is empty then: " + text, x, y -> y.count(5), 0);
        if (want < 0) {
            Due.same("38 nothing changes: " + text, Due.stateOf(x), Due.stateOf(new CarryFair()));
        }
    }

    private static void fault(String text, int place) {
        text(text, -1 - place);
    }

    /** The least and the most of each number, and what is just beyond. */
    private static void numbers() {
        text("old at 0", 1);
        text("old at 6", 1);
        fault("old at 7", 7);
        fault("old at 9999", 7);
        text("old strong 1", 1);
        text("old strong 99", 1);
        fault("old strong 0", 11);
        fault("old strong 100", 11);
        text("old at 0 strong 1", 1);
        fault("old at 7 strong 0", 7);
        fault("old at 6 strong 0", 16);
        text("way 0 6 yards 0", 1);
        text("way 6 0 yards 99", 1);
        fault("way 7 0 yards 9", 4);
        fault("way 0 7 yards 9", 6);
        fault("way 7 7 yards 9", 4);
        for (int place = 0; place < 7; place++) {
            fault("way " + place + " " + place + " yards 9", 6);
            fault("errand 5 from " + place + " to " + place, 19);
        }
        fault("way 0 1 yards 100", 14);
        text("errand 1 from 0 to 6", 1);
        text("errand 60 from 6 to 0", 1);
        fault("errand 0 from 0 to 1", 7);
        fault("errand 61 from 0 to 1", 7);
        fault("errand 5 from 7 to 1", 14);
        fault("errand 5 from 0 to 7", 19);
        fault("errand 5 from 7 to 7", 14);
        text("ware 1", 1);
        text("ware 9999", 1);
        fault("ware 0", 5);
        fault("ware 10000", 5);
        fault("ware 99999", 5);
        fault("ware 2147483647", 5);
        fault("ware 2147483648", 5);
        fault("ware 4294967296", 5);
        fault("ware 4294967297", 5);
        fault("ware 18446744073709551617", 5);
        fault("ware " + "9".repeat(115), 5);
        text("ware " + "0".repeat(114) + "1", 1);
        fault("ware " + "0".repeat(115), 5);
        fault("old at 4294967296", 7);
        fault("old strong 4294967297", 11);
        fault("way 0 4294967297 yards 1", 6);
        fault("way 0 1 yards 4294967297", 14);
    }

    private static void tokens() {
        text("old;old", 2);
        text("  old  ;  old  ", 2);
        text("old at3strong5", 1);
        fault("oldat 3", 0);
        fault("old atstrong", 4);
        text("way0 1yards5river", 1);
        fault("way 01 yards 5", 7);
        text("way 00 01 yards 005 river;ware 7", 2);
        text("errand5from0to1;ware7", 2);
        fault("o ld", 0);
        fault("way 0 1 yards 1 0", 16);
        text("old ;old", 2);
        fault("olda", 0);
        fault("aold", 0);
        fault("ol", 0);
        fault("z", 0);
        fault("a", 0);
    }

    /** Each of all bytes, ahead of an item, behind one, and in one. */
    private static void bytesThatBeginNone() {
        for (int b = 0; b < 256; b++) {
            char c = (char) b;
            boolean letter = b >= 'a' && b <= 'z';
            boolean digit = b >= '0' && b <= '9';
            text(c + "ware 5", c == ' ' ? 1 : -1);
            text("ware 5" + c, c == ' ' || digit ? 1 : c == ';' ? -8 : -7);
            text("ware 5 " + c, c == ' ' ? 1 : c == ';' ? -9 : -8);
            text("ware" + c + "5", c == ' ' || digit ? 1 : letter ? -1 : -5);
            text("old;" + c + ";", c == ' ' ? -6 : -5);
        }
    }

    /** Tokens of one sort alone, each where a text begins and where an item has ended. */
    private static void oneToken() {
        String[] others = {"at", "strong", "yards", "river", "from", "to", "0", "5", "9999", "10000", ";", "carriers", "waye", "wares"};
        for (String other : others) {
            fault(other, 0);
            fault("  " + other, 2);
            fault("old;" + other, 4);
            fault("ware 5 ; " + other, 9);
        }
        String[] behind = {"old", "way", "ware", "errand", "5", "yards", "from", "to", "river"};
        for (String other : behind) {
            fault("old " + other, 4);
            fault("ware 5 " + other, 7);
            fault("errand 5 from 0 to 1 " + other, 21);
            fault("old at 3 " + other, 9);
            fault("old strong 3 " + other, 13);
            fault("way 0 1 yards 5 river " + other, 22);
        }
        fault("old;;old", 4);
        fault(";old", 0);
        fault("way 0 1 yards 5 at", 16);
        fault("way 0 1 yards 5 5", 16);
    }

    private static void kindsTold() {
        String[] kinds = {"carrier", "old", "paired", "cheating", "handed", "watery", "boated"};
        for (int i = 0; i < kinds.length; i++) {
            CarryFair x = tape(kinds[i] + " at 5 strong 7");
            Edge.taken("38 " + kinds[i], x, y -> y.text(), 1);
            Due.is("38 a new carrier of kind", x.of(0, 0), i);
            Due.is("38 at", x.of(0, 1), 5);
            Due.is("38 strong", x.of(0, 2), 7);
            Due.is("38 earned", x.of(0, 3), 0);
            Due.is("38 walked", x.of(0, 4), 0);
            fault(kinds[i] + "s", 0);
            fault(kinds[i].substring(1), 0);
            fault(kinds[i].substring(0, kinds[i].length() - 1), 0);
            fault(kinds[i].toUpperCase(), 0);
            fault("old;" + kinds[i] + "x", 4);
        }
    }

    /** Each word with one letter another one, each by itself. */
    private static void oneLetter() {
        String[][] words = {{"", "carrier", ""}, {"", "old", ""}, {"", "paired", ""}, {"", "cheating", ""}, {"", "handed", ""},
            {"", "watery", ""}, {"", "boated", ""}, {"old ", "at", " 5"}, {"old ", "strong", " 5"}, {"old at 3 ", "strong", " 5"},
            {"", "way", " 0 1 yards 5"}, {"way 0 1 ", "yards", " 5"}, {"way 0 1 yards 5 ", "river", ""},
            {"", "errand", " 5 from 0 to 1"}, {"errand 5 ", "from", " 0 to 1"}, {"errand 5 from 0 ", "to", " 1"}, {"", "ware", " 5"}};
        for (String[] word : words) {
            text(word[0] + word[1] + word[2], 1);
            for (int i = 0; i < word[1].length(); i++) {
                char other = word[1].charAt(i) == 'x' ? 'y' : 'x';
                fault(word[0] + word[1].substring(0, i) + other + word[1].substring(i + 1) + word[2], word[0].length());
                fault(word[0] + word[1].substring(0, i) + word[1].substring(i + 1) + word[2], word[0].length());
            }
            fault(word[0] + word[1] + "x" + word[2], word[0].length());
            fault(word[0] + "x" + word[1] + word[2], word[0].length());
        }
    }

    private static void endsTooEarly() {
        String[] texts = {"old;", "old at", "old strong", "old at 3 strong", "old at 3;", "way", "way 0", "way 0 1", "way 0 1 yards",
            "way 0 1 yards 5;", "way 0 1 yards 5 river;", "errand", "errand 5", "errand 5 from", "errand 5 from 0", "errand 5 from 0 to",
            "errand 5 from 0 to 1;", "ware", "ware 5;"};
        for (String text : texts) {
            fault(text, text.length());
            fault(text + " ", text.length() + 1);
            fault("  " + text + "   ", text.length() + 5);
        }
        String[] whole = {"old", "old at 3", "old strong 3", "old at 3 strong 3", "way 0 1 yards 5", "way 0 1 yards 5 river",
            "errand 5 from 0 to 1", "ware 5"};
        for (String text : whole) {
            text(text, 1);
            text(text + "   ", 1);
            text("   " + text, 1);
            text(text + ";" + text, 2);
            text(text + " ; " + text + " ", 2);
        }
    }

    /** At each place of an item a word, a number, a sign or another byte that can't stand there. */
    private static void eachPlaceOfAnItem() {
        String[][] items = {{"way", "0", "1", "yards", "5"}, {"errand", "5", "from", "0", "to", "1"}, {"ware", "5"}};
        String[] others = {"old", "at", "yards", "from", "to", "river", "5", "0", "9999", ";", ",", "X"};
        for (String[] item : items) {
            for (int i = 1; i < item.length; i++) {
                StringBuilder ahead = new StringBuilder();
                for (int k = 0; k < i; k++) {
                    ahead.append(item[k]).append(' ');
                }
                boolean word = item[i].charAt(0) >= 'a';
                for (String other : others) {
                    boolean number = other.charAt(0) >= '0' && other.charAt(0) <= '9';
                    if (word ? !other.equals(item[i]) : !number) {
                        fault(ahead + other, ahead.length());
                    }
                }
            }
        }
        String[] notPlaces = {"at", "old", ";", ",", "7"};
        for (String other : notPlaces) {
            fault("old at " + other, 7);
            fault("old strong " + (other.equals("7") ? "0" : other), 11);
        }
    }

    private static void options() {
        CarryFair x = tape("old;old at 6;old strong 99;old at 6 strong 1;way 0 1 yards 5;way 1 2 yards 6 river");
        Edge.taken("38 perhaps", x, y -> y.text(), 6);
        int[] places = {0, 6, 0, 6};
        int[] strengths = {20, 20, 99, 1};
        for (int c = 0; c < 4; c++) {
            Due.is("38 perhaps at", x.of(c, 1), places[c]);
            Due.is("38 perhaps strong", x.of(c, 2), strengths[c]);
        }
        Due.is("38 by land", x.wayOf(0, 1, 1), 0);
        Due.is("38 perhaps river", x.wayOf(1, 2, 1), 1);
        fault("old strong 5 at 3", 13);
        fault("old at 3 at 3", 9);
        fault("old strong 3 strong 3", 13);
        fault("way 0 1 river yards 5", 8);
        fault("way 0 1 yards river 5", 14);
        fault("errand 5 to 1 from 0", 9);
        Due.is("38 a river becomes a way by land", x.wayOf(1, 2, 1), 1);
        Due.feed(x, "way 2 1 yards 6");
        Due.is("38 a river becomes a way by land", x.text(), 1);
        Due.is("38 a river becomes a way by land", x.wayOf(1, 2, 1), 0);
    }

    private static CarryFair held(int carriers, int errands, int wares) {
        CarryFair x = new CarryFair();
        for (int i = 0; i < carriers; i++) {
            x.carrier(i);
        }
        for (int i = 0; i < errands; i++) {
            x.errand(1 + i, 0, 1);
        }
        for (int i = 0; i < wares; i++) {
            x.ware(1 + i);
        }
        return x;
    }

    private static void told(String text, int carriers, int errands, int wares, int want) {
        Supplier<CarryFair> make = () -> held(carriers, errands, wares);
        CarryFair x = make.get();
        Due.feed(x, text);
        Edge.taken("38 " + text + " with " + carriers + " " + errands + " " + wares, x, y -> y.text(), want);
        if (want < 0) {
            Due.same("38 nothing changes: " + text, Due.stateOf(x), Due.stateOf(make.get()));
        }
    }

    private static void seventh() {
        told("old", 5, 8, 6, 1);
        told("old", 6, 0, 0, -1);
        told("old;old", 5, 0, 0, -5);
        told("old at 9", 6, 0, 0, -1);
        told("old at 9", 5, 0, 0, -8);
        told("old old", 6, 0, 0, -1);
        told("  old", 6, 0, 0, -3);
        String[] kinds = {"carrier", "old", "paired", "cheating", "handed", "watery", "boated"};
        for (String kind : kinds) {
            told("ware 5;" + kind, 5, 0, 0, 2);
            told("ware 5;" + kind, 6, 0, 0, -8);
        }
        told("errand 5 from 0 to 1", 6, 7, 6, 1);
        told("errand 5 from 0 to 1", 0, 8, 0, -1);
        told("errand 99 from 0 to 1", 0, 8, 0, -1);
        told("errand", 0, 8, 0, -1);
        told("errand", 0, 7, 0, -7);
        told("errand 5 from 0 to 1;errand 5 from 0 to 1", 0, 7, 0, -22);
        told("ware 5", 6, 8, 5, 1);
        told("ware 5", 0, 0, 6, -1);
        told("ware 0", 0, 0, 6, -1);
        told("ware", 0, 0, 6, -1);
        told("ware 5;ware 5", 0, 0, 5, -8);
        told("way 0 1 yards 5", 6, 8, 6, 1);
        told("old;old;old;old;old;old", 0, 0, 0, 6);
        told("old;old;old;old;old;old;old", 0, 0, 0, -25);
        told("ware 1;ware 1;ware 1;ware 1;ware 1;ware 1", 0, 0, 0, 6);
        told("ware 1;ware 1;ware 1;ware 1;ware 1;ware 1;ware 1", 0, 0, 0, -43);
        told("errand1from0to1;errand1from0to1;errand1from0to1;errand1from0to1", 0, 4, 0, 4);
        told("errand1from0to1;errand1from0to1;errand1from0to1;errand1from0to1", 0, 5, 0, -49);
    }

    private static CarryFair wiped() {
        CarryFair x = Edge.rich();
        x.wipe();
        return x;
    }

    private static void nothingChanges() {
        String[] ahead = {"old at 4;", "way 0 1 yards 50;", "errand 5 from 0 to 1;", "ware 7;", "way 0 1 yards 0;way 1 2 yards 3;"};
        for (String text : ahead) {
            CarryFair x = wiped();
            Due.feed(x, text + "ware 0");
            Edge.taken("38 a fault behind " + text, x, y -> y.text(), -1 - text.length() - 5);
            Due.same("38 nothing changes", Due.stateOf(x), Due.stateOf(wiped()));
            Due.is("38 nor what is far", x.far(0, 0, 3), 15);
            Due.is("38 nor what is kept", x.undo(), 1);
        }
        CarryFair x = Edge.rich();
        Due.feed(x, "0 old");
        Edge.taken("38 nothing of a number that is more than it was", x, y -> y.text(), -9);
        Due.is("38 wares", x.count(2), 3);
        Edge.asked("38 a fault but empties the tape", EdgeTextTest::wiped, y -> {
            y.feed(0x5a, 1);
            return y.text();
        }, -1);
    }

    private static void itemByItem() {
        CarryFair x = Edge.rich();
        x.wipe();
        Due.feed(x, "way 0 1 yards 9 river;errand 2 from 0 to 1;way 0 1 yards 3;ware 5;old at 1");
        Edge.taken("38 how many items", x, y -> y.text(), 5);
        Due.is("38 the later one", x.wayOf(0, 1, 0), 3);
        Due.is("38 by land", x.wayOf(0, 1, 1), 0);
        Due.is("38 far is so at once", x.far(0, 0, 1), 3);
        Due.is("38 the next errand", x.errandOf(5, 0), 2);
        Due.is("38 its worth", x.errandOf(5, 5), 6);
        Due.is("38 the next ware", x.wareOf(3, 0), 5);
        Due.is("38 the next carrier", x.of(4, 1), 1);
        Due.is("38 what was stays", x.of(1, 6), 4);
        Due.is("38 z stays", x.count(6), 12345);
        Due.is("38 spots stay", x.as(5, 6), 2);
    }

    /** 120 bytes that are but ways, and one item of all 120. */
    private static void longestText() {
        String way = "way0 1yards9;";
        text(way.repeat(9) + "old", 10);
        text(blanks(117) + "old", 1);
        text("old" + blanks(117), 1);
        fault(blanks(118) + "ol", 118);
        fault(way.repeat(9) + "ol;", 117);
        fault("old" + blanks(116) + ";", 120);
    }
}
