import java.lang.reflect.Method;
import java.lang.reflect.Modifier;
import java.util.ArrayList;
import java.util.Comparator;
import java.util.List;
import java.util.Map;
import java.util.TreeMap;

/**
 * Every call of the class beside the same call of SecondFair, in long runs of calls: most of them such as can be
 * done, some at the edges, some beyond all. A run is as long as an object is used (512 calls).
 */
public final class TwiceTest {
    private static final int RUNS = 240;
    private static final int LONG = 512;
    /** As many calls as a text can take. */
    private static final int TEXT = 64;
    /**
     * What the arguments of each call are: k a kind, c a carrier, p a place, e an errand, w a ware, s a set, b 0 or 1,
     * y yards, t a sheet, i a number's place on it, o a spot, h a carrier or nothing; v a value by the one before it;
     * m how much a ware costs, l pounds, d days, B bits, n how many numbers, x a sheet's number, z any, r from -1 on;
     * a digit: 0 up to this.
     */
    private static final Map<String, String> ARGUMENTS = new TreeMap<>(Map.ofEntries(
        Map.entry("carrier", "k"), Map.entry("of", "c7"), Map.entry("change", "c3v"), Map.entry("way", "ppyb"),
        Map.entry("wayOf", "pp1"), Map.entry("errand", "lpp"), Map.entry("errandOf", "e5"), Map.entry("ware", "m"),
        Map.entry("wareOf", "w1"), Map.entry("far", "cpp"), Map.entry("first", "cp"), Map.entry("take", "ce"),
        Map.entry("drop", "ce"), Map.entry("walk", "cp"), Map.entry("buy", "cw"), Map.entry("now", "4"),
        Map.entry("round", "cs"), Map.entry("gets", "cs"), Map.entry("cheapest", "cw"), Map.entry("which", "cw"),
        Map.entry("who", "s"), Map.entry("joined", "cs"), Map.entry("shared", "ccs"), Map.entry("part", "ccs"),
        Map.entry("strength", "cs"), Map.entry("kindFor", "cs"), Map.entry("bridge", "cs"), Map.entry("worth", "cs"),
        Map.entry("reach", "c"), Map.entry("middle", "c"), Map.entry("heavy", "cs"), Map.entry("day", "d"),
        Map.entry("ahead", "d"), Map.entry("seed", "z"), Map.entry("feed", "z4"), Map.entry("wipe", ""),
        Map.entry("text", ""), Map.entry("hold", "oh"), Map.entry("as", "ok"), Map.entry("sheet", "tBn"),
        Map.entry("write", "tix"), Map.entry("copy", "titin"), Map.entry("load", "t"),
        Map.entry("judge", "tc"), Map.entry("image", ""), Map.entry("undo", ""), Map.entry("tear", ""),
        Map.entry("count", "7"), Map.entry("status", "r")));
    private static final String[] WORDS = {"carrier", "old", "paired", "cheating", "handed", "watery", "boated", "at",
        "strong", "way", "yards", "river", "errand", "from", "to", "ware", ";", "0", "6", "7", "10000", "9999", "007", "Way", "\t", "#"};

    private long draws;
    private final List<Method> calls = new ArrayList<>();
    private final CarryFair x = new CarryFair();
    private final SecondFair y = new SecondFair();
    private final StringBuilder told = new StringBuilder();
    private int made;
    private boolean wrong;

    private TwiceTest(int seed) {
        draws = seed;
        for (Method m : CarryFair.class.getDeclaredMethods()) {
            if (Modifier.isPublic(m.getModifiers())) {
                calls.add(m);
            }
        }
        calls.sort(Comparator.comparing(Method::getName));
    }

    public static void main(String[] args) throws ReflectiveOperationException {
        int seeds = args.length > 0 ? Integer.parseInt(args[0]) : RUNS;
        for (int seed = 1; seed <= seeds; seed++) {
            new TwiceTest(seed).run(seed % 4);
        }
        Due.end();
    }

    private void run(int how) throws ReflectiveOperationException {
        Due.is("calls of the face", calls.size(), ARGUMENTS.size());
        for (int i = 0; i < 6 + 10 * how && !wrong; i++) {
            make(new String[] {"way", "carrier", "errand", "ware", "way"}[any(5)]);
        }
        while (made < LONG - TEXT && !wrong) {
            int which = any(40);
            if (which == 0) {
                tell();
            } else if (which < 4) {
                make(new String[] {"take", "walk", "drop", "buy"}[any(4)]);
            } else {
                make(calls.get(any(calls.size())).getName());
            }
        }
        while (made < LONG && !wrong) {
            make(new String[] {"of", "errandOf", "wareOf", "wayOf", "count", "status", "now", "as"}[any(8)]);
        }
    }

    private int anyInt() {
        draws = draws * 6364136223846793005L + 1442695040888963407L;
        return (int) (draws >>> 32);
    }

    private int any(int below) {
        return Math.floorMod(anyInt(), below);
    }

    private void make(String name) throws ReflectiveOperationException {
        String kinds = ARGUMENTS.get(name);
        Object[] arguments = new Object[kinds.length()];
        int before = 0;
        for (int i = 0; i < arguments.length; i++) {
            before = argument(kinds.charAt(i), before);
            arguments[i] = before;
        }
        // undo() and tear() often would leave little to look at
        boolean tooOften = (name.equals("undo") || name.equals("tear") || name.equals("wipe")) && any(3) > 0;
        if (!tooOften) {
            compare(name, arguments);
        }
    }

    private void compare(String name, Object... arguments) throws ReflectiveOperationException {
        Method here = null;
        for (Method m : calls) {
            here = m.getName().equals(name) ? m : here;
        }
        int got = (int) here.invoke(x, arguments);
        int due = y.answer(SecondFair.class.getMethod(name, here.getParameterTypes()), arguments);
        made++;
        told.append(name).append(java.util.Arrays.toString(arguments)).append(' ').append(due).append('\n');
        if (got != due) {
            wrong = true;
            System.out.print(told);
        }
        Due.is(name, got, due);
    }

    private int argument(char kind, int before) {
        int wild = any(60);
        if (wild == 0) {
            return anyInt();
        }
        if (wild == 1) {
            return any(2) == 0 ? Integer.MAX_VALUE : Integer.MIN_VALUE;
        }
        if (wild == 2) {
            return any(16) - 3;
        }
        return usual(kind, before);
    }

    private int usual(char kind, int before) {
        switch (kind) {
            case 'k': case 'p': return any(7);
            case 'c': return below(y.s.carriers.size());
            case 'h': return any(y.s.carriers.size() + 1) - 1;
            case 'e': return errandNear(before);
            case 'w': return below(y.s.wares.size());
            case 's': return set();
            case 'b': return any(2);
            case 'y': return any(9) == 0 ? 0 : any(3) == 0 ? 1 + any(99) : 1 + any(8);
            case 't': return any(4);
            case 'i': case 'n': return any(any(2) == 0 ? 5 : 42) - any(8) / 7;
            case 'o': return any(10);
            case 'v': return new int[] {any(7), any(7), 1 + any(99), any(2) * any(2000)}[Math.floorMod(before, 4)];
            case 'm': return 1 + any(any(2) == 0 ? 400 : 9999);
            case 'l': return 1 + any(any(3) == 0 ? 60 : 18);
            case 'd': return 1 + any(12);
            case 'B': return 8 * new int[] {0, 1, 1, 2, 4}[any(5)];
            case 'x': return any(3) == 0 ? anyInt() >> any(32) : any(7);
            case 'r': return any(8) - 1;
            case 'z': return anyInt();
            default: return any(kind - '0' + 1);
        }
    }

    private int below(int many) {
        return many == 0 ? 0 : any(many);
    }

    /** Mostly one that the carrier could take up or set down. */
    private int errandNear(int carrier) {
        List<Integer> near = new ArrayList<>();
        for (int e = 0; e < y.s.errands.size(); e++) {
            int[] it = y.s.errands.get(e);
            boolean isThere = carrier >= 0 && carrier < y.s.carriers.size() && it[1] == y.s.carriers.get(carrier)[1];
            if (it[3] == 0 && isThere || it[3] == 1 && it[4] == carrier) {
                near.add(e);
            }
        }
        return near.isEmpty() || any(4) == 0 ? below(y.s.errands.size()) : near.get(any(near.size()));
    }

    private int set() {
        if (any(6) == 0) {
            return any(1 << y.s.errands.size() + any(2));
        }
        int set = 0;
        for (int e = 0; e < y.s.errands.size(); e++) {
            if (y.s.errands.get(e)[3] == 0 && any(3) > 0 && Integer.bitCount(set) < 5) {
                set |= 1 << e;
            }
        }
        return set;
    }

    private void tell() throws ReflectiveOperationException {
        if (any(4) > 0) {
            compare("wipe");
        }
        String text = someText();
        for (int i = 0; i < text.length() && !wrong; i += 4) {
            int n = Math.min(4, text.length() - i);
            int bytes = anyInt();
            for (int k = 0; k < n; k++) {
                bytes = bytes << 8 | text.charAt(i + k);
            }
            compare("feed", bytes, n);
        }
        if (!wrong) {
            compare("text");
        }
    }

    private String someText() {
        StringBuilder text = new StringBuilder();
        int items = 1 + any(4);
        for (int i = 0; i < items; i++) {
            text.append(i == 0 ? "" : ";").append(blanks()).append(item());
        }
        if (any(4) == 0) {
            text.setCharAt(any(text.length()), (char) any(256));
        }
        if (any(8) == 0) {
            text.insert(any(text.length()), WORDS[any(WORDS.length)]);
        }
        if (any(8) == 0) {
            text.setLength(any(text.length()));
        }
        return text.append(blanks()).toString();
    }

    private String blanks() {
        return " ".repeat(any(4) / 2);
    }

    private String item() {
        switch (any(4)) {
            case 0:
                return WORDS[any(7)] + (any(2) == 0 ? " at " + number(0, 6) : "")
                    + (any(2) == 0 ? " strong" + blanks() + number(1, 99) : "");
            case 1:
                return "way " + number(0, 6) + " " + number(0, 6) + " yards " + number(0, 99) + (any(2) == 0 ? " river" : "");
            case 2:
                return "errand " + number(1, 60) + blanks() + "from " + any(7) + " to 0" + number(0, 6);
            default:
                return "ware " + number(1, 9999);
        }
    }

    /** Mostly one that may stand there, and often the first or last that may or may not. */
    private int number(int least, int most) {
        int[] edges = {Math.max(0, least - 1), least, most, most + 1};
        return any(4) == 0 ? edges[any(4)] : least + any(most - least + 1);
    }
}
