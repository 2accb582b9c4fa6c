import java.util.ArrayList;
import java.util.List;
import java.util.regex.Matcher;
import java.util.regex.Pattern;

/** A text of the document, read a second time: its items, or the place of its fault (-1: there is none). */
final class SecondText {
    private static final Pattern TOKEN = Pattern.compile(" *([a-z]+|[0-9]+|[^ ]|$)", Pattern.DOTALL);
    private static final List<String> KINDS =
        List.of("carrier", "old", "paired", "cheating", "handed", "watery", "boated");

    private static final class Fault extends RuntimeException {
        private static final long serialVersionUID = 1;

        Fault() {
            super(null, null, false, false);
        }
    }

    /** 0 a carrier (kind, place, strength), 1 a way (one, other, yards, river), 2 an errand, 3 a ware. */
    final List<int[]> items = new ArrayList<>();
    final int fault;
    private final List<String> tokens = new ArrayList<>();
    private final List<Integer> places = new ArrayList<>();
    private final int[] has;
    private int at;

    SecondText(String text, int carriers, int errands, int wares) {
        has = new int[] {carriers, 0, errands, wares};
        Matcher m = TOKEN.matcher(text);
        while (m.find()) {
            tokens.add(m.group(1));
            places.add(m.start(1));
            if (m.group(1).isEmpty()) {
                break;
            }
        }
        int found = -1;
        try {
            read();
        } catch (Fault f) {
            found = places.get(at);
        }
        fault = found;
    }

    private void read() {
        item();
        while (!tokens.get(at).isEmpty()) {
            must(";");
            item();
        }
    }

    private void item() {
        String word = tokens.get(at);
        int[] told;
        if (KINDS.contains(word)) {
            begin(0, 6);
            int place = may("at") ? number(0, 6, -1) : 0;
            int strength = may("strong") ? number(1, 99, -1) : 20;
            told = new int[] {0, KINDS.indexOf(word), place, strength};
        } else if (word.equals("way")) {
            begin(1, 1000);
            int one = number(0, 6, -1);
            int other = number(0, 6, one);
            must("yards");
            int yards = number(0, 99, -1);
            told = new int[] {1, one, other, yards, may("river") ? 1 : 0};
        } else if (word.equals("errand")) {
            begin(2, 8);
            int pounds = number(1, 60, -1);
            must("from");
            int from = number(0, 6, -1);
            must("to");
            told = new int[] {2, pounds, from, number(0, 6, from)};
        } else if (word.equals("ware")) {
            begin(3, 6);
            told = new int[] {3, number(1, 9999, -1)};
        } else {
            throw new Fault();
        }
        items.add(told);
    }

    /** The word of an item stands there, unless there are as many as can be. */
    private void begin(int what, int most) {
        if (has[what] == most) {
            throw new Fault();
        }
        has[what]++;
        at++;
    }

    private boolean may(String word) {
        boolean stands = tokens.get(at).equals(word);
        at += stands ? 1 : 0;
        return stands;
    }

    private void must(String word) {
        if (!may(word)) {
            throw new Fault();
        }
    }

    private int number(int least, int most, int not) {
        String digits = tokens.get(at).replaceFirst("^0+(?=[0-9])", "");
        if (!digits.matches("[0-9]{1,4}")) {
            throw new Fault();
        }
        int told = Integer.parseInt(digits);
        if (told < least || told > most || told == not) {
            throw new Fault();
        }
        at++;
        return told;
    }
}
