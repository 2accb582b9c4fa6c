/** The edges of promises 46 to 50, and what the terms tell of findings. */
public final class EdgeImageTest {
    private static final int MIN = Integer.MIN_VALUE;
    private static final int MAX = Integer.MAX_VALUE;

    public static void main(String[] args) {
        findings();
        undoesRefused();
        emptyImage();
        undoes();
        newOnesAfterUndo();
        tapeAndSheetsAreNotKept();
        latestStays();
        tears();
        counts();
        countsRefused();
        statuses();
        statusesRefused();
        countedOnceEach();
        undoTakesNoneBack();
        Due.end();
    }

    /** LOW and what is below it, each by a call that answers it. */
    private static void findings() {
        CarryFair x = Edge.rich();
        Due.is("T BEYOND is LOW", x.carrier(7), -1000001);
        for (int i = 0; i < 6; i++) {
            x.carrier(0);
        }
        Due.is("T FULL is LOW - 1", x.carrier(0), -1000002);
        Due.is("T KIND is LOW - 2", x.as(5, 1), -1000003);
        Due.is("T NONE is LOW - 3", x.far(0, 0, 6), -1000004);
        Due.is("T STATE is LOW - 4", x.take(0, 3), -1000005);
        Due.is("T MISSING is LOW - 5", x.as(0, 0), -1000006);
        Due.is("T SIZE is LOW - 6", x.sheet(0, 8, -1), -1000007);
        for (int which = 0; which <= 6; which++) {
            Due.is("50 one of each", x.status(which), which == 1 ? 5 : 1);
        }
    }

    private static void undoesRefused() {
        Edge.refused("47 NONE: nothing was ever kept", CarryFair::new, x -> x.undo(), Due.NONE);
        Edge.refused("47 NONE: nothing is kept any more", () -> {
            CarryFair x = Edge.rich();
            x.tear();
            return x;
        }, x -> x.undo(), Due.NONE);
        Edge.refused("47 NONE: torn after an undo", () -> {
            CarryFair x = Edge.rich();
            x.undo();
            x.tear();
            return x;
        }, x -> x.undo(), Due.NONE);
    }

    private static void emptyImage() {
        CarryFair x = new CarryFair();
        Edge.taken("46 an image of nothing", x, y -> y.image(), 1);
        x.way(0, 1, 5, 1);
        for (int i = 0; i < 6; i++) {
            x.carrier(i);
            x.ware(1 + i);
        }
        for (int i = 0; i < 8; i++) {
            x.errand(1 + i, 0, 1);
        }
        x.hold(0, 5);
        x.hold(9, 0);
        x.seed(8);
        Edge.taken("47 how many errands", x, y -> y.undo(), 0);
        CarryFair first = new CarryFair();
        first.image();
        Due.same("47 all as at first", Due.stateOf(x), Due.stateOf(first));
        Due.is("47 no ways are left", x.carrier(0) + x.reach(0), 1);
    }

    private static void changeAll(CarryFair x) {
        x.way(0, 1, 9, 1);
        x.way(4, 5, 9, 0);
        x.change(0, 0, 6);
        x.change(0, 1, 5);
        x.change(0, 2, 99);
        x.change(0, 3, 500);
        x.walk(3, 2);
        x.drop(1, 2);
        x.buy(0, 0);
        x.ware(8);
        x.load(0);
        x.carrier(5);
        x.change(4, 1, 2);
        x.change(4, 3, 70);
        x.change(4, 2, 9);
        x.errand(9, 2, 1);
        x.take(4, 5);
        x.walk(4, 1);
        x.buy(4, 3);
        x.hold(5, -1);
        x.hold(0, 1);
        x.day(3);
        x.seed(-9);
    }

    private static void newOnesAfterUndo() {
        CarryFair x = Edge.rich();
        x.image();
        changeAll(x);
        x.undo();
        Edge.taken("47 a new carrier takes the next number", x, y -> y.carrier(1), 4);
        Edge.taken("47 a new errand takes the next number", x, y -> y.errand(1, 0, 1), 5);
        Edge.taken("47 a new ware takes the next number", x, y -> y.ware(4), 3);
        int[] first = {1, 0, 20, 0, 0, 10, 0, 0};
        for (int what = 0; what <= 7; what++) {
            Due.is("47 a new carrier is as at first", x.of(4, what), first[what]);
        }
        Due.is("47 a new errand lies", x.errandOf(5, 3), 0);
        Due.is("47 a new errand is nobody's", x.errandOf(5, 4), -1);
        Due.is("47 a new ware isn't sold", x.wareOf(3, 1), -1);
    }

    /** All that is kept, changed in each thing, and back. */
    private static void undoes() {
        CarryFair x = Edge.rich();
        String before = Due.stateOf(x);
        Edge.taken("46 image", x, y -> y.image(), 1);
        changeAll(x);
        Edge.taken("47 how many errands", x, y -> y.undo(), 5);
        Due.same("47 it becomes what was kept", Due.stateOf(x), before);
        Due.is("47 what is far, too", x.far(0, 0, 3), 15);
        Due.is("47 what has no ways, too", x.far(0, 4, 5), Due.NONE);
        CarryFair eight = new CarryFair();
        for (int i = 0; i < 8; i++) {
            eight.errand(1, 0, 1);
        }
        eight.image();
        Edge.taken("47 eight errands", eight, y -> y.undo(), 8);
    }

    private static void tapeAndSheetsAreNotKept() {
        CarryFair x = Edge.rich();
        x.image();
        x.wipe();
        Due.feed(x, "ware 12;old");
        Edge.fill(x, 0, 8, 9);
        Edge.fill(x, 3, 32, 4, 5);
        x.sheet(1, 0, 0);
        Edge.taken("47 undo", x, y -> y.undo(), 5);
        Due.is("46 the tape isn't kept", x.count(5), 11);
        Due.is("46 sheets aren't kept", x.load(0), 1);
        Due.is("46 sheets aren't kept", x.wareOf(0, 0), 9);
        Due.is("46 one that is missing now", x.load(1), Due.MISSING);
        Due.is("46 one that was missing", x.load(3), 2);
        Due.is("46 the tape's text", x.text(), 2);
        Due.is("46 the tape's text", x.wareOf(3, 0), 12);
        x.undo();
        Due.is("46 the tape stays empty", x.count(5), 0);
    }

    private static void latestStays() {
        CarryFair x = new CarryFair();
        for (int i = 0; i < 8; i++) {
            x.errand(1 + i, 0, 1);
            Edge.taken("46 one behind the other", x, y -> y.image(), 1);
        }
        for (int i = 0; i < 3; i++) {
            Edge.taken("47 the latest stays", x, y -> y.undo(), 8);
        }
        CarryFair again = Edge.rich();
        again.image();
        for (int i = 0; i < 3; i++) {
            changeAll(again);
            Edge.taken("47 once more", again, y -> y.undo(), 5);
        }
        Due.same("47 what was kept is as it was", Due.stateOf(again), Due.stateOf(Edge.rich()));
        CarryFair y = Edge.rich();
        Edge.taken("47 the image of rich()", y, z -> z.undo(), 1);
        Due.is("47 carriers", y.count(0), 1);
        Due.is("47 kind", y.of(0, 0), 4);
        Due.is("47 wares", y.wareOf(0, 0), 77);
        Due.is("47 z", y.count(6), -5);
        Due.is("47 river", y.wayOf(5, 6, 1), 1);
        Due.is("47 spots", y.count(7), 1);
        Due.is("47 far", y.far(0, 5, 6), 4);
        Due.is("47 no ways", y.far(0, 0, 1), Due.NONE);
    }

    private static void tears() {
        CarryFair x = new CarryFair();
        Edge.taken("48 nothing was", x, y -> y.tear(), 0);
        Edge.taken("48 nothing was", x, y -> y.tear(), 0);
        x.image();
        Edge.taken("48 something was", x, y -> y.tear(), 1);
        Edge.taken("48 nothing is kept", x, y -> y.tear(), 0);
        x.image();
        x.image();
        Edge.taken("48 two images are one", x, y -> y.tear(), 1);
        Edge.taken("48 two images are one", x, y -> y.tear(), 0);
        CarryFair rich = Edge.rich();
        Edge.taken("48 something was", rich, y -> y.tear(), 1);
        Due.same("48 nothing else changes", Due.stateOf(rich), Due.stateOf(Edge.rich()));
    }

    private static void counts() {
        int[] rich = {4, 5, 3, 8, 1, 6, 12345, 2};
        for (int what = 0; what <= 7; what++) {
            int it = what;
            Edge.asked("49 count " + what, Edge::rich, x -> x.count(it), rich[what]);
        }
        CarryFair x = new CarryFair();
        for (int i = 0; i < 8; i++) {
            Due.is("49 carriers", x.count(0), Math.min(i, 6));
            Due.is("49 errands", x.count(1), i);
            Due.is("49 wares", x.count(2), Math.min(i, 6));
            x.carrier(0);
            x.errand(1, 0, 1);
            x.ware(1);
        }
        Due.is("49 at most six carriers", x.count(0), 6);
        Due.is("49 at most eight errands", x.count(1), 8);
        Due.is("49 at most six wares", x.count(2), 6);
        int sum = 0;
        x.way(0, 1, 3, 0);
        for (int c = 0; c < 6; c++) {
            x.change(c, 3, 1 + c);
            x.walk(c, 1);
            sum += 1 + c;
            Due.is("49 earned of all", x.count(3), sum);
            Due.is("49 walked by all", x.count(4), 3 * (c + 1));
        }
        for (int i = 0; i < 30; i++) {
            x.feed(0, 4);
            Due.is("49 bytes", x.count(5), 4 * (i + 1));
        }
        for (int spot = 0; spot < 10; spot++) {
            x.hold(spot, spot % 6);
            Due.is("49 spots", x.count(7), spot + 1);
        }
    }

    private static void countsRefused() {
        int[] others = {-1, 8, MIN, MAX};
        for (int what : others) {
            Edge.refused("49 BEYOND: what " + what, Edge::rich, x -> x.count(what), Due.BEYOND);
            Edge.refused("49 BEYOND: what " + what, CarryFair::new, x -> x.count(what), Due.BEYOND);
        }
    }

    private static void statuses() {
        CarryFair x = Edge.rich();
        for (int which = -1; which <= 6; which++) {
            Due.is("50 none at first", x.status(which), 0);
        }
        for (int turn = 1; turn <= 3; turn++) {
            x.as(0, 0);
            Due.is("50 MISSING", x.status(5), turn);
            x.sheet(0, 8, -1);
            Due.is("50 SIZE", x.status(6), turn);
            x.as(5, 1);
            Due.is("50 KIND", x.status(2), turn);
            x.far(0, 0, 6);
            Due.is("50 NONE", x.status(3), turn);
            x.take(0, 3);
            Due.is("50 STATE", x.status(4), turn);
            x.take(3, 4);
            Due.is("50 FULL", x.status(1), turn);
            x.of(9, 9);
            Due.is("50 BEYOND", x.status(0), turn);
            Due.is("50 all", x.status(-1), 7 * turn);
        }
    }

    private static void statusesRefused() {
        int[] others = {-2, 7, MIN, MAX};
        for (int which : others) {
            Edge.refused("50 BEYOND: which " + which, Edge::rich, x -> x.status(which), Due.BEYOND);
        }
        CarryFair x = new CarryFair();
        Due.is("50 BEYOND", x.status(7), Due.BEYOND);
        Due.is("50 counted from then on", x.status(0), 1);
        Due.is("50 counted from then on", x.status(-1), 1);
        Due.is("50 BEYOND", x.status(-2), Due.BEYOND);
        Due.is("50 counted from then on", x.status(-1), 2);
        Due.is("50 which 6 is taken", x.status(6), 0);
    }

    private static void countedOnceEach() {
        CarryFair x = Edge.rich();
        x.take(9, 9);
        Due.is("50 an act wrong in two ways counts once", x.status(-1), 1);
        x.seed(-1000001);
        x.seed(-1000004);
        x.count(6);
        Due.is("50 z is no finding", x.status(-1), 1);
        x.wipe();
        Due.is("38 a fault", x.text(), -1);
        Due.is("50 a fault is no finding", x.status(-1), 1);
        x.errandOf(1, 4);
        x.wareOf(0, 1);
        Due.is("50 nor is -1", x.status(-1), 1);
        for (int i = 0; i < 200; i++) {
            x.carrier(7);
        }
        Due.is("50 all that were ever", x.status(0), 201);
        Due.is("50 all that were ever", x.status(-1), 201);
    }

    private static void undoTakesNoneBack() {
        CarryFair x = Edge.rich();
        x.carrier(9);
        x.image();
        x.carrier(9);
        x.take(0, 3);
        x.undo();
        Due.is("50 undo() takes none back", x.status(0), 2);
        Due.is("50 undo() takes none back", x.status(4), 1);
        Due.is("50 undo() takes none back", x.status(-1), 3);
        x.tear();
        x.undo();
        Due.is("50 a refused undo() counts", x.status(3), 1);
        Due.is("50 a refused undo() counts", x.status(-1), 4);
    }
}
