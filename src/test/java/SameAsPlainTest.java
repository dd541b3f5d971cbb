import java.util.ArrayList;
import java.util.List;
import java.util.Random;
import java.util.TreeMap;
import java.util.regex.Matcher;
import java.util.regex.Pattern;

/** Random runs of calls, the same every time, in which ThreeDots must answer what PlainDots answers. */
public final class SameAsPlainTest {
    private final Random random;
    private final ThreeDots x = new ThreeDots();
    private final PlainDots y = new PlainDots();
    private final List<String> calls = new ArrayList<>();
    private boolean same = true;
    private static final Pattern TOKEN = Pattern.compile("[a-zA-Z]+|[0-9]+|[^ \n]");
    private static final TreeMap<String, Integer> SEEN = new TreeMap<>();

    private SameAsPlainTest(long seed) {
        random = new Random(seed);
    }

    public static void main(String[] args) {
        int runs = args.length > 0 ? Integer.parseInt(args[0]) : 400;
        int wrong = 0;
        for (int seed = 0; seed < runs && wrong < 3; seed++) {
            SameAsPlainTest run = new SameAsPlainTest(seed);
            run.go();
            if (!run.same) {
                wrong++;
                System.out.println("seed " + seed + ":");
                run.calls.forEach(c -> System.out.println("  " + c));
            }
        }
        if (args.length > 1) {
            SEEN.forEach((k, v) -> System.out.println(k + " " + v));
        }
        System.out.println(wrong == 0 ? runs + " runs as the plain ones" : wrong + " runs differ");
        System.exit(wrong == 0 ? 0 : 1);
    }

    private void due(String call, long got, long want) {
        if (!same) {
            return;
        }
        calls.add(call + " -> " + got);
        SEEN.merge(call.substring(0, call.indexOf('(')) + (want < 0 ? " below 0" : want == 0 ? " 0" : " above 0"),
            1, Integer::sum);
        if (got != want) {
            same = false;
            calls.add("  but due is " + want);
        }
    }

    private int below(int n) {
        return random.nextInt(n);
    }

    /** Mostly within the bounds, now and then just beyond or far off. */
    private int near(int least, int most) {
        switch (below(40)) {
            case 0:
                return least - 1;
            case 1:
                return most + 1;
            case 2:
                return least;
            case 3:
                return most;
            case 4:
                return below(4) == 0 ? random.nextInt() : least + below(most - least + 1);
            default:
                return least + below(most - least + 1);
        }
    }

    private void go() {
        if (below(3) > 0) {
            tellText(0);
        }
        if (below(2) > 0) {
            tellText(1);
        }
        if (below(2) > 0) {
            tellText(2);
        }
        if (below(2) > 0) {
            tellText(3);
        }
        opening();
        int left = 60 + below(120);
        for (int i = 0; i < left && same; i++) {
            step();
        }
        lookAll();
    }

    /** Now and then a run begins where something is full or far on: there the edges are that it else seldom meets. */
    private void opening() {
        switch (below(40)) {
            case 0, 1, 2, 3 -> sayMany(50 + below(11));
            case 4, 5 -> ringMany(135 + below(20));
            case 6 -> goFar(9999, 295 + below(5));
            case 7, 8 -> {
                sayMany(1 + below(5));
                sleepLong();
            }
            case 9 -> {
                sayMany(55 + below(6));
                ringMany(90);
            }
            default -> { }
        }
    }

    private void sayMany(int many) {
        for (int i = 0; i < many; i++) {
            int one = below(2);
            int l = 1 + below(99);
            int k = below(10);
            due("say(" + one + ", " + l + ", " + k + ", true)", x.say(one, l, k, true), y.say(one, l, k, true));
        }
    }

    private void ringMany(int many) {
        for (int i = 0; i < many; i++) {
            due("ring()", x.ring(), y.ring());
        }
    }

    private void goFar(int minute, int times) {
        due("set(0, 0, " + minute + ")", bit(x.set(0, 0, minute)), bit(y.set(0, 0, minute)));
        for (int i = 0; i < times && same; i++) {
            due("minutes(300)", x.minutes(300), y.minutes(300));
        }
    }

    /** What is said is read so late that it took more than 9999 minutes, or nearly so. */
    private void sleepLong() {
        feedText("one 0 from 0 for 24 sleep;one 1 from 0 for 24 busy;");
        due("text(1)", x.text(1), y.text(1));
        for (int i = 0; i < 33; i++) {
            due("minutes(300)", x.minutes(300), y.minutes(300));
        }
        int more = 50 + below(100);
        due("minutes(" + more + ")", x.minutes(more), y.minutes(more));
        due("text(1)", x.text(1), y.text(1));
        due("minutes(1)", x.minutes(1), y.minutes(1));
    }

    private void step() {
        switch (below(16)) {
            case 0, 1, 2, 3 -> act();
            case 4 -> tell();
            default -> ask();
        }
    }

    private void act() {
        switch (below(8)) {
            case 0, 1, 2 -> {
                int one = near(0, 1);
                int l = near(1, 99);
                int k = near(0, 9);
                boolean s = random.nextBoolean();
                due("say(" + one + ", " + l + ", " + k + ", " + s + ")", x.say(one, l, k, s), y.say(one, l, k, s));
            }
            case 3 -> {
                int i = below(3) == 0 ? near(0, 60) : Math.max(0, y.now.messages.size() - 1 - below(4));
                due("takeBack(" + i + ")", bit(x.takeBack(i)), bit(y.takeBack(i)));
            }
            case 4 -> {
                if (below(3) == 0) {
                    due("ring()", x.ring(), y.ring());
                }
            }
            case 5 -> due("undo()", bit(x.undo()), bit(y.undo()));
            default -> {
                int n = below(3) == 0 ? near(1, 300) : 1 + below(20);
                due("minutes(" + n + ")", x.minutes(n), y.minutes(n));
            }
        }
    }

    private void tell() {
        switch (below(12)) {
            case 0 -> {
                int v = random.nextInt();
                due("state(" + v + ")", x.state(v), y.state(v));
            }
            case 1, 2, 3 -> {
                int what = below(4) == 0 ? near(0, 3) : 1 + below(3);
                int who = near(0, 1);
                int v = near(0, what == 1 ? 99 : what == 3 ? 1 : 9999);
                v = what == 0 && below(2) == 0 ? 150 + below(200) : v;
                due("set(" + what + ", " + who + ", " + v + ")", bit(x.set(what, who, v)), bit(y.set(what, who, v)));
            }
            case 4, 5, 6 -> tellText(below(4));
            case 7, 8 -> {
                int v = below(3) == 0 ? near(0, 1439) : 7 + 20 * below(60) + below(2);
                due("time(" + v + ")", x.time(v), y.time(v));
            }
            case 9 -> {
                if (below(2) == 0) {
                    tellTable(near(0, 3), near(0, 99), near(0, 99));
                } else {
                    for (int k = 0; k < 4; k++) {
                        tellTable(k, below(4), below(4));
                    }
                }
            }
            default -> {
                boolean taken = random.nextBoolean();
                due("image(" + taken + ")", bit(x.image(taken)), bit(y.image(taken)));
            }
        }
    }

    private void tellTable(int k, int a, int b) {
        due("table(" + k + ", " + a + ", " + b + ")", bit(x.table(k, a, b)), bit(y.table(k, a, b)));
    }

    private void ask() {
        int one = near(0, 1);
        int w3 = near(0, 3);
        int w2 = near(0, 2);
        int w1 = near(0, 1);
        int i = below(4) == 0 ? near(0, 60) : y.now.messages.isEmpty() ? 0 : below(y.now.messages.size());
        int n = below(2) == 0 ? near(1, 300) : 1 + below(40);
        int p = near(0, 1000);
        switch (below(25)) {
            case 0 -> due("of(" + one + ", " + w3 + ")", x.of(one, w3), y.of(one, w3));
            case 1 -> {
                int w = near(0, 8);
                due("message(" + i + ", " + w + ")", x.message(i, w), y.message(i, w));
            }
            case 2, 3 -> {
                int w = near(0, 4);
                due("asks(" + i + ", " + w + ")", x.asks(i, w), y.asks(i, w));
            }
            case 4 -> {
                int line = near(0, Math.max(1, y.now.book.size()));
                due("book(" + line + ", " + w3 + ")", x.book(line, w3), y.book(line, w3));
            }
            case 5 -> {
                int far = near(1, 999);
                due("goes(" + far + ", " + w3 + ")", x.goes(far, w3), y.goes(far, w3));
            }
            case 6 -> {
                int t = near(0, 999);
                int l = near(1, 99);
                due("copies(" + t + ", " + l + ", " + w2 + ")", x.copies(t, l, w2), y.copies(t, l, w2));
            }
            case 7 -> {
                int shown = below(256) & ((1 << y.told.habits.size()) - 1);
                int not = below(256) & ((1 << y.told.habits.size()) - 1) & ~shown;
                shown = below(10) == 0 ? random.nextInt() : shown;
                not = below(10) == 0 ? below(16) : not;
                due("sure(" + p + ", " + shown + ", " + not + ")", x.sure(p, shown, not), y.sure(p, shown, not));
            }
            case 8 -> {
                int sign = near(0, Math.max(1, y.told.habits.size()));
                due("needs(" + p + ", " + sign + ")", x.needs(p, sign), y.needs(p, sign));
            }
            case 9 -> due("waits(" + p + ")", x.waits(p), y.waits(p));
            case 10 -> due("which(" + one + ")", x.which(one), y.which(one));
            case 11 -> due("drift(" + one + ", " + w1 + ")", x.drift(one, w1), y.drift(one, w1));
            case 12 -> due("pauses(" + one + ", " + w2 + ")", x.pauses(one, w2), y.pauses(one, w2));
            case 13 -> due("fits(" + w2 + ")", x.fits(w2), y.fits(w2));
            case 14 -> due("game(" + w1 + ")", x.game(w1), y.game(w1));
            case 15 -> due("rests()", x.rests(), y.rests());
            case 16 -> due("deletes(" + one + ", " + n + ", " + w1 + ")", x.deletes(one, n, w1),
                y.deletes(one, n, w1));
            case 17 -> due("thread(" + w1 + ")", x.thread(w1), y.thread(w1));
            case 18 -> due("crossed()", x.crossed(), y.crossed());
            case 19 -> {
                int hours = near(1, 48);
                due("awake(" + hours + ", " + w2 + ")", x.awake(hours, w2), y.awake(hours, w2));
            }
            case 20 -> {
                int l = near(1, 99);
                due("mirrors(" + l + ", " + w1 + ")", x.mirrors(l, w1), y.mirrors(l, w1));
            }
            case 21 -> due("ease(" + one + ", " + n + ", " + w1 + ")", x.ease(one, n, w1), y.ease(one, n, w1));
            case 22 -> due("split(" + w1 + ")", x.split(w1), y.split(w1));
            case 23 -> due("fault(" + w2 + ")", x.fault(w2), y.fault(w2));
            default -> {
                int w = near(0, 10);
                due("look(" + w + ")", x.look(w), y.look(w));
            }
        }
    }

    private static int bit(boolean b) {
        return b ? 1 : 0;
    }

    private void lookAll() {
        for (int w = 0; w <= 10; w++) {
            due("look(" + w + ")", x.look(w), y.look(w));
        }
        for (int i = 0; i < y.now.messages.size(); i++) {
            for (int w = 0; w <= 8; w++) {
                due("message(" + i + ", " + w + ")", x.message(i, w), y.message(i, w));
            }
        }
        for (int i = 0; i < y.now.book.size(); i++) {
            for (int w = 0; w <= 3; w++) {
                due("book(" + i + ", " + w + ")", x.book(i, w), y.book(i, w));
            }
        }
        for (int one = 0; one < 2; one++) {
            for (int w = 0; w <= 3; w++) {
                due("of(" + one + ", " + w + ")", x.of(one, w), y.of(one, w));
            }
        }
    }

    // ---- texts ----

    private void tellText(int k) {
        String text = switch (k) {
            case 0 -> law();
            case 1 -> hours();
            case 2 -> sayings();
            default -> habits();
        };
        text = below(5) == 0 ? spoiled(text) : text;
        text = text.length() > 400 ? text.substring(0, 400) : text;
        int fed = feedText(text);
        int length = below(60) == 0 ? near(0, fed) : text.length();
        due("end(" + length + ")", bit(x.end(length)), bit(y.end(length)));
        int as = below(60) == 0 ? near(0, 3) : k;
        due("text(" + as + ")", x.text(as), y.text(as));
        due("fault(0)", x.fault(0), y.fault(0));
        due("fault(1)", x.fault(1), y.fault(1));
    }

    /** Feeds a text with blanks behind it up to a full twenty; how many bytes that were. */
    private int feedText(String text) {
        calls.add("\"" + text.replace("\n", "\\n") + "\"");
        StringBuilder padded = new StringBuilder(text);
        while (padded.length() % 20 != 0) {
            padded.append(' ');
        }
        for (int i = 0; i < padded.length(); i += 20) {
            int[] n = new int[5];
            for (int j = 0; j < 20; j++) {
                n[j / 4] = n[j / 4] << 8 | padded.charAt(i + j);
            }
            due("feed(..)", x.feed(n[0], n[1], n[2], n[3], n[4]), y.feed(n[0], n[1], n[2], n[3], n[4]));
        }
        return padded.length();
    }

    private String spoiled(String text) {
        StringBuilder s = new StringBuilder(text);
        for (int times = 1 + below(2); times > 0; times--) {
            int at = below(s.length() + 1);
            switch (below(6)) {
                case 4, 5 -> s = new StringBuilder(otherToken(s.toString()));
                case 0 -> s.insert(at, ";+-*/()<=>?Aa0\t\0".charAt(below(16)));
                case 1 -> s.insert(at, pick("not", "(", " when ", "/0", "00000", " or ", "X", ";", "12345", "\u00e9"));
                case 2 -> s.setLength(at);
                default -> {
                    if (at < s.length()) {
                        s.deleteCharAt(at);
                    }
                }
            }
        }
        return s.toString();
    }

    /** The text with another token in one place. */
    private String otherToken(String text) {
        List<String> tokens = new ArrayList<>();
        Matcher token = TOKEN.matcher(text);
        while (token.find()) {
            tokens.add(token.group());
        }
        if (!tokens.isEmpty()) {
            String other = below(3) > 0 ? tokens.get(below(tokens.size())) : pick("0", "1", "3", "5", "9999", "one",
                "not", "(", ")", "sleep", "many", "stop", "deletes", "cross", "when", "=", ";", "/", "/0", "-");
            tokens.set(below(tokens.size()), other);
        }
        return String.join(" ", tokens);
    }

    private String pick(String... of) {
        return of[below(of.length)];
    }

    private String gap() {
        return pick(" ", " ", " ", "  ", "\n");
    }

    private String law() {
        StringBuilder s = new StringBuilder();
        for (int lines = below(20) == 0 ? 17 : below(7); lines > 0; lines--) {
            s.append(pick("delay", "lasts", "kiss", "hurt", "go")).append(gap()).append(sum(lines > 10 ? 1 : 4));
            if (below(2) == 0 && lines < 10) {
                s.append(gap()).append("when").append(gap()).append(condition(below(8) == 0 ? 9 : below(4)));
            }
            s.append(pick(";", "; ", ";\n"));
        }
        return s.toString();
    }

    private String sum(int most) {
        StringBuilder s = new StringBuilder(unit());
        for (int more = below(most); more > 0; more--) {
            switch (below(5)) {
                case 0 -> s.append(pick("*", " * ")).append(unit());
                case 1 -> s.append(pick("/", " / ")).append(1 + below(30));
                case 2, 3 -> s.append(pick("+", " + ")).append(unit());
                default -> s.append(pick("-", " - ")).append(unit());
            }
        }
        return s.toString();
    }

    private String unit() {
        if (below(2) == 0) {
            return String.valueOf(below(3) == 0 ? below(10000) : below(40));
        }
        return pick("one", "cross", "took", "long", "kisses", "stop", "bus", "hour", "ticks", "many");
    }

    private String condition(int deep) {
        StringBuilder s = new StringBuilder(single(deep));
        for (int more = below(6) - 3; more > 0; more--) {
            s.append(gap()).append(pick("and", "or")).append(gap()).append(single(below(2)));
        }
        return s.toString();
    }

    private String single(int deep) {
        if (deep > 0) {
            return below(2) == 0 ? "not " + single(deep - 1) : "(" + condition(deep - 1) + ")";
        }
        return sum(2) + pick("<", "=", ">", " < ", " > ") + sum(2);
    }

    private String hours() {
        StringBuilder s = new StringBuilder();
        for (int lines = below(20) == 0 ? 17 : below(6); lines > 0; lines--) {
            s.append("one ").append(number(0, 1)).append(" from ").append(number(0, 23)).append(" for ")
                .append(below(2) == 0 ? number(1, 24) : String.valueOf(1 + below(5))).append(gap())
                .append(pick("free", "bus", "busy", "sleep")).append(pick(";", " ; "));
        }
        return s.toString();
    }

    private String sayings() {
        StringBuilder s = new StringBuilder();
        for (int lines = below(20) == 0 ? 17 : below(11); lines > 0; lines--) {
            int soon = Math.min(9999, y.now.minute + below(60));
            s.append("at ").append(below(9) == 0 ? number(0, 9999) : String.valueOf(soon)).append(" one ")
                .append(number(0, 1));
            if (below(4) == 0) {
                s.append(" deletes;");
            } else {
                s.append(" says ").append(number(1, 99)).append("kisses ").append(number(0, 9))
                    .append(pick(" stop", "")).append(";");
            }
        }
        return s.toString();
    }

    private String habits() {
        StringBuilder s = new StringBuilder();
        for (int lines = below(12) == 0 ? 9 : below(9); lines > 0; lines--) {
            s.append("sign easy ").append(number(1, 999)).append(" cross ").append(number(1, 999)).append(";");
        }
        return s.toString();
    }

    /** A number within its bounds, and now and then one beyond. */
    private String number(int least, int most) {
        int v = below(150) == 0 ? (below(2) == 0 ? least - 1 : most + 1) : least + below(most - least + 1);
        return String.valueOf(Math.max(0, v));
    }
}
