/** What the tests share: answers that are due, the findings, and texts fed to the tape. */
final class Due {
    static final int BEYOND = -1000001;
    static final int FULL = -1000002;
    static final int KIND = -1000003;
    static final int NONE = -1000004;
    static final int STATE = -1000005;
    static final int MISSING = -1000006;
    static final int SIZE = -1000007;

    private static int asked = 0;
    private static int wrong = 0;

    private Due() {
    }

    static void is(String call, long got, long want) {
        asked++;
        if (got != want) {
            wrong++;
            System.out.println(call + " answered " + got + ", due is " + want);
        }
    }

    /** By as few calls as can be. */
    static void feed(CarryFair x, String text) {
        for (int i = 0; i < text.length(); i += 4) {
            int n = Math.min(4, text.length() - i);
            int bytes = 0;
            for (int k = 0; k < n; k++) {
                bytes = bytes << 8 | text.charAt(i + k);
            }
            x.feed(bytes, n);
        }
    }

    static int tell(CarryFair x, String text) {
        feed(x, text);
        return x.text();
    }

    static CarryFair fair(String... texts) {
        CarryFair x = new CarryFair();
        for (String text : texts) {
            is("38 told: " + text, tell(x, text), text.split(";").length);
        }
        return x;
    }

    /** All that can be asked of an object without a change, but for status(). */
    static String stateOf(CarryFair x) {
        StringBuilder all = new StringBuilder();
        for (int what = 0; what <= 7; what++) {
            all.append(x.count(what)).append(' ');
        }
        for (int c = 0; c < x.count(0); c++) {
            for (int what = 0; what <= 7; what++) {
                all.append(x.of(c, what)).append(' ');
            }
        }
        for (int e = 0; e < x.count(1); e++) {
            for (int what = 0; what <= 5; what++) {
                all.append(x.errandOf(e, what)).append(' ');
            }
        }
        for (int w = 0; w < x.count(2); w++) {
            all.append(x.wareOf(w, 0)).append(' ').append(x.wareOf(w, 1)).append(' ');
        }
        for (int one = 0; one < 7; one++) {
            for (int other = one + 1; other < 7; other++) {
                all.append(x.wayOf(one, other, 0)).append(' ').append(x.wayOf(other, one, 1)).append(' ');
            }
        }
        for (int spot = 0; spot < 10; spot++) {
            all.append(x.as(spot, 0)).append(' ');
        }
        return all.toString();
    }

    static void same(String call, String got, String want) {
        asked++;
        if (!got.equals(want)) {
            wrong++;
            System.out.println(call + " made it\n  " + got + ", due is\n  " + want);
        }
    }

    static void end() {
        System.out.println(asked + " answers, " + wrong + " not as due");
        if (wrong != 0 || asked == 0) {
            System.exit(1);
        }
    }
}
