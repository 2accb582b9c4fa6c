import java.util.function.Supplier;
import java.util.function.ToIntFunction;

/**
 * What the tests of edges share. Each call is made on one of two objects that were made alike: the other one tells
 * what all would be without it. No object is used for more than 512 calls.
 */
final class Edge {
    private Edge() {
    }

    /** The call answers a finding, counts this one alone, and leaves all else as it was. */
    static void refused(String sentence, Supplier<CarryFair> make, ToIntFunction<CarryFair> call, int finding) {
        CarryFair x = make.get();
        int[] before = statuses(x);
        Due.is(sentence, call.applyAsInt(x), finding);
        before[-1000001 - finding]++;
        before[7]++;
        sameCounts(sentence, before, statuses(x));
        Due.same(sentence, all(x), all(make.get()));
    }

    /** The call answers, counts no finding, and leaves all as it was. */
    static void asked(String sentence, Supplier<CarryFair> make, ToIntFunction<CarryFair> call, int want) {
        CarryFair x = make.get();
        taken(sentence, x, call, want);
        Due.same(sentence, all(x), all(make.get()));
    }

    /** The call answers, and counts no finding. */
    static void taken(String sentence, CarryFair x, ToIntFunction<CarryFair> call, int want) {
        int[] before = statuses(x);
        Due.is(sentence, call.applyAsInt(x), want);
        sameCounts(sentence, before, statuses(x));
    }

    private static int[] statuses(CarryFair x) {
        int[] counts = new int[8];
        for (int which = 0; which < 7; which++) {
            counts[which] = x.status(which);
        }
        counts[7] = x.status(-1);
        return counts;
    }

    private static void sameCounts(String sentence, int[] want, int[] got) {
        for (int which = 0; which < 7; which++) {
            Due.is("50 status(" + which + ") after " + sentence, got[which], want[which]);
        }
        Due.is("50 status(-1) after " + sentence, got[7], want[7]);
    }

    /** All that an object holds. What can't be asked otherwise is found by changes: the object is of no use then. */
    private static String all(CarryFair x) {
        StringBuilder told = new StringBuilder(Due.stateOf(x));
        for (int s = 0; s < 4; s++) {
            told.append("| load ").append(x.load(s));
            for (int w = 0; w < x.count(2); w++) {
                told.append(' ').append(x.wareOf(w, 0));
            }
            told.append(" copy");
            for (int t = s + 1; t < 4; t++) {
                told.append(' ').append(x.copy(s, 0, t, 0, 0));
            }
            told.append(" write");
            for (int i = 0; i < 5; i++) {
                told.append(' ').append(x.write(s, i, 1));
            }
        }
        told.append("| text ").append(x.text());
        for (int what = 0; what <= 2; what++) {
            told.append(' ').append(x.count(what));
        }
        told.append(' ').append(x.wareOf(x.count(2) - 1, 0));
        told.append("| undo ").append(x.undo()).append(' ').append(Due.stateOf(x));
        return told.toString();
    }

    /**
     * Something of all. Ways: 0 4 1 3(river) 2 5 3. Carriers: 0 is HANDED at 0, 1 a CARRIER at 0 that carries errand 2,
     * 2 BOATED at 1 with 8 earned and 1 yard walked, 3 a CARRIER at 0. Errands: 0 lies at 5, from where no ways lead;
     * 1 lies at 0; 2 is carried; 3 was done by 2; 4 lies at 0 and is more than 20 pounds. Ware 1 is sold to 2.
     * Sheets of 8 bits (1 2 3), of 16 bits (300 4), of 8 bits (none), and a missing one; a tape; an image of less.
     */
    static CarryFair rich() {
        CarryFair x = new CarryFair();
        x.carrier(4);
        x.errand(7, 5, 6);
        x.ware(77);
        x.way(5, 6, 2, 1);
        x.hold(2, 0);
        x.seed(-5);
        x.image();
        x.way(5, 6, 0, 0);
        for (String text : new String[] {"way 0 1 yards 4;way 1 2 yards 3 river;way 2 3 yards 5;carrier;boated at 2;carrier",
            "errand 5 from 0 to 1;errand 6 from 0 to 2;errand 3 from 2 to 1;errand 21 from 0 to 3;ware 10;ware 9999"}) {
            Due.feed(x, text);
            x.text();
        }
        x.take(2, 3);
        x.walk(2, 1);
        x.buy(2, 1);
        x.take(1, 2);
        x.hold(5, 2);
        x.seed(12345);
        fill(x, 0, 8, 1, 2, 3);
        fill(x, 1, 16, 300, 4);
        fill(x, 2, 8);
        Due.feed(x, "ware 8");
        return x;
    }

    static void fill(CarryFair x, int s, int bits, int... numbers) {
        x.sheet(s, bits, numbers.length);
        for (int i = 0; i < numbers.length; i++) {
            x.write(s, i, numbers[i]);
        }
    }

    /** One item, told so many times. */
    static void many(CarryFair x, String item, int n) {
        for (int i = 0; i < n; i++) {
            Due.feed(x, item);
            x.text();
        }
    }
}
