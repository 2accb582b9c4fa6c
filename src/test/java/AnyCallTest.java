/**
 * Runs of any calls with any arguments: nothing is thrown, each finding is counted once and changes nothing
 * but status(), and questions change nothing at all. Each call that is looked at is made on an object of its own,
 * on which the calls ahead of it were made again: none is used for more than 512 calls.
 */
public final class AnyCallTest {
    private static final int CALLS = 49;
    private static final int TOLD = 49;
    private static final int LONG = 26;
    private static final int RUNS = 600;
    private static final int LOOKS = 3;
    private static final String[] TEXTS = {"carrier at 1 strong 40", "old", "boated at 2", "handed strong 9",
        "way 0 1 yards 5;way 1 2 yards 3 river", "way 2 3 yards 1 river;way 3 4 yards 60", "way 4 5 yards 2;way 5 6 yards 0",
        "errand 5 from 0 to 1;errand 6 from 1 to 2", "errand 9 from 2 to 0", "ware 10;ware 300", "ware 0", "old;;", "at"};
    private static final String QUESTIONS = " of wayOf errandOf wareOf far first now round gets cheapest which who joined "
        + "shared part strength kindFor bridge worth reach middle heavy ahead as judge count status ";

    private int z;
    /** The calls of a run: which, and five arguments; or a text that is told, and which. */
    private final int[][] calls = new int[LONG][6];
    private int a;
    private int b;
    private int c;
    private int d;
    private int e;
    private String name;

    private AnyCallTest(int seed) {
        z = seed;
    }

    public static void main(String[] args) {
        for (int seed = 1; seed <= RUNS; seed++) {
            new AnyCallTest(seed * 104729).run(seed % 2 == 0);
        }
        Due.end();
    }

    private int any(int below) {
        z = z * 1664525 + 1013904223;
        return (z >>> 10) % below;
    }

    private int argument() {
        switch (any(40)) {
            case 0: return Integer.MIN_VALUE;
            case 1: return Integer.MAX_VALUE;
            case 2: return -1 - any(3);
            case 3: return any(10001);
            case 4: return any(260);
            case 5: return 1000000000 + any(1000000000);
            case 6: case 7: case 8: return 8 * any(5);
            case 9: case 10: case 11: case 12: return any(32);
            default: return any(any(2) == 0 ? 3 : 8);
        }
    }

    private void choose() {
        for (int[] call : calls) {
            call[0] = any(12) == 0 ? TOLD : any(CALLS);
            call[1] = argument();
            for (int i = 2; i < 6; i++) {
                call[i] = argument();
            }
            if (call[0] == TOLD) {
                call[1] = any(TEXTS.length);
            }
        }
    }

    private int make(CarryFair x, int[] call) {
        a = call[1];
        b = call[2];
        c = call[3];
        d = call[4];
        e = call[5];
        return call[0] == TOLD ? Due.tell(x, TEXTS[a]) : answer(x, call[0]);
    }

    private void run(boolean isRich) {
        choose();
        for (int at = any(LOOKS); at < LONG; at += LOOKS) {
            if (calls[at][0] != TOLD) {
                CarryFair x = isRich ? Edge.rich() : Due.fair("carrier;watery;way 0 1 yards 4;errand 3 from 0 to 1;ware 20");
                for (int i = 0; i < at; i++) {
                    make(x, calls[i]);
                }
                compare(x, calls[at]);
            }
        }
    }

    private void compare(CarryFair x, int[] call) {
        String before = Due.stateOf(x);
        int all = x.status(-1);
        int[] each = new int[7];
        for (int w = 0; w < 7; w++) {
            each[w] = x.status(w);
        }
        int answer = make(x, call);
        boolean tellsZ = name.equals("seed") || name.equals("count") && a == 6;
        boolean isFinding = !tellsZ && answer < -1000000;
        String told = name + "(" + a + ", " + b + ", " + c + ", " + d + ", " + e + ")";
        if (isFinding) {
            Due.is(told + " is one of seven", answer >= Due.SIZE ? 1 : 0, 1);
        }
        Due.is("50 " + told + " counted", x.status(-1) - all, isFinding ? 1 : 0);
        for (int w = 0; w < 7; w++) {
            Due.is("50 " + told + " counted", x.status(w) - each[w], isFinding && answer == -1000001 - w ? 1 : 0);
        }
        if (isFinding || QUESTIONS.contains(" " + name + " ")) {
            Due.same(told, Due.stateOf(x), before);
        }
    }

    private int named(String call, int answer) {
        name = call;
        return answer;
    }

    private int answer(CarryFair x, int call) {
        switch (call) {
            case 0: return named("carrier", x.carrier(a));
            case 1: return named("of", x.of(a, b));
            case 2: return named("change", x.change(a, b, c));
            case 3: return named("way", x.way(a, b, c, d));
            case 4: return named("wayOf", x.wayOf(a, b, c));
            case 5: return named("errand", x.errand(a, b, c));
            case 6: return named("errandOf", x.errandOf(a, b));
            case 7: return named("ware", x.ware(a));
            case 8: return named("wareOf", x.wareOf(a, b));
            case 9: return named("far", x.far(a, b, c));
            case 10: return named("first", x.first(a, b));
            case 11: return named("take", x.take(a, b));
            case 12: return named("drop", x.drop(a, b));
            case 13: return named("walk", x.walk(a, b));
            case 14: return named("buy", x.buy(a, b));
            case 15: return named("now", x.now(a));
            case 16: return named("round", x.round(a, b));
            case 17: return named("gets", x.gets(a, b));
            case 18: return named("cheapest", x.cheapest(a, b));
            case 19: return named("which", x.which(a, b));
            case 20: return named("who", x.who(a));
            case 21: return named("joined", x.joined(a, b));
            case 22: return named("shared", x.shared(a, b, c));
            case 23: return named("part", x.part(a, b, c));
            default: return answerMore(x, call);
        }
    }

    private int answerMore(CarryFair x, int call) {
        switch (call) {
            case 24: return named("strength", x.strength(a, b));
            case 25: return named("kindFor", x.kindFor(a, b));
            case 26: return named("bridge", x.bridge(a, b));
            case 27: return named("worth", x.worth(a, b));
            case 28: return named("reach", x.reach(a));
            case 29: return named("middle", x.middle(a));
            case 30: return named("heavy", x.heavy(a, b));
            case 31: return named("day", x.day(a));
            case 32: return named("ahead", x.ahead(a));
            case 33: return named("seed", x.seed(a));
            case 34: return named("feed", x.feed(a, b));
            case 35: return named("wipe", x.wipe());
            case 36: return named("text", x.text());
            case 37: return named("hold", x.hold(a, b));
            case 38: return named("as", x.as(a, b));
            case 39: return named("sheet", x.sheet(a, b, c));
            case 40: return named("write", x.write(a, b, c));
            case 41: return named("copy", x.copy(a, b, c, d, e));
            case 42: return named("load", x.load(a));
            case 43: return named("judge", x.judge(a, b));
            case 44: return named("image", x.image());
            case 45: return named("undo", x.undo());
            case 46: return named("tear", x.tear());
            case 47: return named("count", x.count(a));
            default: return named("status", x.status(a));
        }
    }
}
