import java.util.ArrayList;
import java.util.List;
import java.util.function.IntUnaryOperator;

/** What the tests by hand have in common: counting answers that are not due, telling texts, seeing all there is. */
abstract class Due {
    static final int NONE = ThreeDots.NONE;
    static final int FAR = Integer.MAX_VALUE;
    static final int DEEP = Integer.MIN_VALUE;
    private static int checks = 0;
    private static int wrong = 0;

    static void due(String what, long got, long want) {
        checks++;
        if (got != want) {
            wrong++;
            System.out.println(what + " answered " + got + ", due is " + want);
        }
    }

    static void due(String what, boolean got, boolean want) {
        due(what, bit(got), bit(want));
    }

    static int bit(boolean b) {
        return b ? 1 : 0;
    }

    static void finish() {
        System.out.println(checks + " checks, " + wrong + " wrong");
        System.exit(wrong == 0 ? 0 : 1);
    }

    /** A question answers none just beyond its bounds and far beyond, and something else just within. */
    static void bounds(String what, IntUnaryOperator question, int least, int most, int none) {
        for (int v : new int[] {least - 1, most + 1, DEEP, FAR}) {
            due(what + " of " + v + ", which can't be,", question.applyAsInt(v), none);
        }
        for (int v : new int[] {least, most}) {
            int got = question.applyAsInt(v);
            due(what + " of " + v + ", which can be, answered " + got + ": whether none", got == none, false);
        }
    }

    static int tell(ThreeDots x, int k, String text) {
        feedAll(x, text);
        return x.text(k);
    }

    /** The tape has this text alone. */
    static void feedAll(ThreeDots x, String text) {
        x.end(0);
        for (int i = 0; i < text.length(); i += 20) {
            int[] n = new int[5];
            for (int j = 0; j < 20; j++) {
                n[j / 4] = n[j / 4] << 8 | (i + j < text.length() ? text.charAt(i + j) & 255 : 32);
            }
            x.feed(n[0], n[1], n[2], n[3], n[4]);
        }
        x.end(text.length());
    }

    static void faulty(int k, String text, int fault, int place) {
        ThreeDots x = new ThreeDots();
        due("text " + k + " \"" + text + "\"", tell(x, k, text), NONE);
        due("its fault \"" + text + "\"", x.fault(0), fault);
        due("its place \"" + text + "\"", x.fault(1), place);
    }

    static void good(int k, String text, int lines) {
        ThreeDots x = new ThreeDots();
        due("text " + k + " \"" + text + "\"", tell(x, k, text), lines);
        due("its fault \"" + text + "\"", x.fault(0), 0);
        due("its place \"" + text + "\"", x.fault(1), NONE);
    }

    static ThreeDots with(int k, String text) {
        ThreeDots x = new ThreeDots();
        if (tell(x, k, text) == NONE) {
            due("text is told \"" + text + "\"", 0, 1);
        }
        return x;
    }

    /** All that a new run of questions can tell apart, for states that must be the same. */
    static List<Integer> seen(ThreeDots x) {
        List<Integer> all = new ArrayList<>();
        for (int w = 0; w < 10; w++) {
            all.add(x.look(w));
        }
        for (int i = 0; i < x.look(1); i++) {
            for (int w = 0; w < 9; w++) {
                all.add(x.message(i, w));
            }
            for (int w = 0; w < 5; w++) {
                all.add(x.asks(i, w));
            }
        }
        for (int i = 0; i < x.look(3); i++) {
            for (int w = 0; w < 4; w++) {
                all.add(x.book(i, w));
            }
        }
        for (int w = 0; w < 4; w++) {
            all.add(x.of(0, w));
            all.add(x.of(1, w));
        }
        all.add(x.rests());
        all.add(x.fits(0));
        all.add(x.sure(300, 0, 0));
        return all;
    }

    static void same(String what, List<Integer> got, List<Integer> want) {
        due(what, got.equals(want), true);
    }
}
