/** Promises 46 to 50: images, counts. */
public final class ImageTest {
    private static final String FIRST = "carrier strong 30;old at 2;way 0 1 yards 4;way 1 2 yards 3 river";
    private static final String SECOND = "errand 5 from 0 to 1;errand 6 from 2 to 1;ware 9;ware 50";

    public static void main(String[] args) {
        undoes();
        latest();
        whatIsNotKept();
        tears();
        counts();
        statuses();
        Due.end();
    }

    private static void changeAll(CarryFair x) {
        x.drop(1, 1);
        x.change(0, 1, 2);
        x.take(0, 1);
        x.change(0, 1, 0);
        x.take(0, 0);
        x.walk(0, 1);
        x.buy(0, 0);
        x.change(1, 0, 6);
        x.change(1, 1, 4);
        x.change(1, 2, 7);
        x.carrier(3);
        x.change(2, 3, 40);
        x.walk(2, 1);
        x.errand(9, 1, 4);
        x.take(2, 2);
        x.ware(12);
        x.way(0, 1, 9, 1);
        x.way(5, 6, 1, 0);
        x.hold(3, -1);
        x.hold(4, 2);
        x.seed(5);
    }

    private static void undoes() {
        CarryFair x = Due.fair(FIRST, SECOND);
        x.hold(3, 1);
        x.seed(99);
        x.take(1, 1);
        String before = Due.stateOf(x);
        Due.is("47 none", x.undo(), Due.NONE);
        Due.is("46 image", x.image(), 1);
        for (int i = 0; i < 2; i++) {
            changeAll(x);
            Due.is("47 undo", x.undo(), 2);
            Due.same("47 undo", Due.stateOf(x), before);
            Due.is("47 far as it was", x.far(0, 0, 1), 4);
            Due.is("2 a new carrier", x.carrier(5), 2);
            Due.is("3 a new carrier's place", x.of(2, 1), 0);
            Due.is("3 a new carrier's earnings", x.of(2, 3), 0);
            Due.is("3 a new carrier's yards", x.of(2, 4), 0);
            Due.is("3 a new carrier carries nothing", x.of(2, 6), 0);
            Due.is("8 a new errand", x.errand(1, 0, 1), 2);
            Due.is("8 a new errand lies", x.errandOf(2, 3), 0);
        }
    }

    private static void latest() {
        CarryFair x = new CarryFair();
        x.image();
        x.errand(1, 0, 1);
        x.image();
        x.errand(1, 0, 1);
        Due.is("47 the latest", x.undo(), 1);
        Due.is("47 it stays", x.undo(), 1);
        x.tear();
        Due.is("48 none is left", x.undo(), Due.NONE);
    }

    private static void whatIsNotKept() {
        CarryFair x = Due.fair("ware 3;carrier");
        x.feed(0x6f6c64, 3);
        x.sheet(0, 8, 1);
        x.image();
        x.feed(32, 1);
        x.write(0, 0, 8);
        x.sheet(1, 8, 1);
        x.carrier(9);
        x.of(1, 0);
        Due.is("47 undo", x.undo(), 0);
        Due.is("47 the tape stays", x.count(5), 4);
        Due.is("47 sheets stay", x.load(0), 1);
        Due.is("47 sheets stay", x.write(1, 0, 1), 1);
        Due.is("47 findings stay", x.status(0), 2);
        Due.is("38 the tape", x.text(), 1);
    }

    private static void tears() {
        CarryFair x = new CarryFair();
        Due.is("48 nothing was", x.tear(), 0);
        x.image();
        Due.is("48 something was", x.tear(), 1);
        Due.is("48 nothing is", x.tear(), 0);
        Due.is("47 none", x.undo(), Due.NONE);
        x.image();
        Due.is("47 anew", x.undo(), 0);
    }

    private static void counts() {
        CarryFair x = Due.fair(FIRST, SECOND);
        x.take(0, 0);
        x.take(1, 1);
        x.walk(0, 1);
        x.walk(1, 1);
        x.hold(0, 0);
        x.hold(9, 0);
        x.feed(0, 2);
        int[] counts = {2, 2, 2, 20 + 36, 4 + 6, 2, 1, 2};
        for (int what = 0; what <= 7; what++) {
            Due.is("49 count " + what, x.count(what), counts[what]);
        }
        Due.is("49 beyond", x.count(8), Due.BEYOND);
        Due.is("49 beyond", x.count(-1), Due.BEYOND);
    }

    private static void statuses() {
        CarryFair x = Due.fair("carrier;old");
        x.of(0, 9);          // BEYOND
        x.take(0, 0);        // BEYOND
        x.far(0, 0, 1);      // NONE
        x.errand(1, 1, 2);
        x.take(0, 0);        // STATE
        x.round(0, 1);       // NONE
        x.as(0, 0);          // MISSING
        x.hold(0, 0);
        x.as(0, 1);          // KIND
        x.sheet(0, 8, -1);   // SIZE
        for (int i = 0; i < 31; i++) {
            x.feed(0, 4);    // FULL, once
        }
        x.undo();            // NONE
        x.text();            // a fault is no finding
        int[] counts = {2, 1, 1, 3, 1, 1, 1};
        for (int which = 0; which <= 6; which++) {
            Due.is("50 status " + which, x.status(which), counts[which]);
        }
        Due.is("50 all", x.status(-1), 10);
        Due.is("50 beyond", x.status(7), Due.BEYOND);
        Due.is("50 beyond", x.status(-2), Due.BEYOND);
        Due.is("50 counted from then on", x.status(0), 4);
        Due.is("50 all", x.status(-1), 12);
    }
}
