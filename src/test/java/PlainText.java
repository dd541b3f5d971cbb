import java.util.ArrayList;
import java.util.List;
import java.util.Map;
import java.util.Set;
import java.util.function.Predicate;

/** The four texts of the document, read by its own grammar, rule by rule; a fault is thrown. */
final class PlainText {
    static final class Fault extends Exception {
        private static final long serialVersionUID = 1L;
        final int what;
        final int place;

        Fault(int what, int place) {
            this.what = what;
            this.place = place;
        }
    }

    record Token(String word, int place) { }

    private static final List<Set<String>> WORDS = List.of(
        Set.of("delay", "lasts", "kiss", "hurt", "go", "when", "or", "and", "not", "one", "cross", "took", "long",
            "kisses", "stop", "bus", "hour", "ticks", "many"),
        Set.of("one", "from", "for", "free", "bus", "busy", "sleep"),
        Set.of("at", "one", "says", "kisses", "stop", "deletes"),
        Set.of("sign", "easy", "cross"));
    private static final Set<String> FACTS =
        Set.of("one", "cross", "took", "long", "kisses", "stop", "bus", "hour", "ticks", "many");

    private final List<Token> tokens = new ArrayList<>();
    private int at = 0;
    private int open = 0;

    /** A token that is none of the document's is kept as "?"; the end is "". */
    PlainText(String source, int k) {
        java.util.regex.Matcher m =
            java.util.regex.Pattern.compile("[A-Za-z]+|[0-9]+|[ \n]+|(?s:.)").matcher(source);
        while (m.find()) {
            String s = m.group();
            if (s.charAt(0) == ' ' || s.charAt(0) == '\n') {
                continue;
            }
            boolean good = Character.isDigit(s.charAt(0)) ? s.length() <= 4
                : s.matches("[A-Za-z]+") ? WORDS.get(k).contains(s) : ";+-*/()<=>".contains(s);
            tokens.add(new Token(good ? s : "?", m.start()));
        }
        tokens.add(new Token("", source.length()));
    }

    private String peek() {
        return tokens.get(at).word;
    }

    private Fault wrong(int what) {
        return new Fault(what, tokens.get(at).place);
    }

    private void take(String word) throws Fault {
        if (!peek().equals(word)) {
            throw wrong(1);
        }
        at++;
    }

    private boolean isNumber() {
        return peek().matches("[0-9]+");
    }

    private int number(int least, int most) throws Fault {
        if (!isNumber()) {
            throw wrong(1);
        }
        int v = Integer.parseInt(peek());
        if (v < least || v > most) {
            throw wrong(2);
        }
        at++;
        return v;
    }

    private void begin(Set<String> starts, int lines, int most) throws Fault {
        if (!starts.contains(peek())) {
            throw wrong(1);
        }
        if (lines == most) {
            throw wrong(3);
        }
    }

    List<PlainDots.Rule> law() throws Fault {
        List<PlainDots.Rule> rules = new ArrayList<>();
        while (!peek().isEmpty()) {
            begin(Set.of("delay", "lasts", "kiss", "hurt", "go"), rules.size(), 16);
            String word = peek();
            at++;
            PlainDots.Sum sum = sum();
            Predicate<Map<String, Integer>> when = null;
            if (peek().equals("when")) {
                at++;
                when = either();
            }
            take(";");
            rules.add(new PlainDots.Rule(word, sum, when));
        }
        return rules;
    }

    private Predicate<Map<String, Integer>> either() throws Fault {
        Predicate<Map<String, Integer>> left = both();
        while (peek().equals("or")) {
            at++;
            left = left.or(both());
        }
        return left;
    }

    private Predicate<Map<String, Integer>> both() throws Fault {
        Predicate<Map<String, Integer>> left = single();
        while (peek().equals("and")) {
            at++;
            left = left.and(single());
        }
        return left;
    }

    private Predicate<Map<String, Integer>> single() throws Fault {
        if (peek().equals("not") || peek().equals("(")) {
            boolean not = peek().equals("not");
            if (open == 8) {
                throw wrong(3);
            }
            open++;
            at++;
            Predicate<Map<String, Integer>> inner;
            if (not) {
                inner = single().negate();
            } else {
                inner = either();
                take(")");
            }
            open--;
            return inner;
        }
        PlainDots.Sum left = sum();
        String sign = peek();
        if (!Set.of("<", "=", ">").contains(sign)) {
            throw wrong(1);
        }
        at++;
        PlainDots.Sum right = sum();
        return f -> {
            int c = Integer.compare(left.value(f), right.value(f));
            return sign.equals("<") ? c < 0 : sign.equals("=") ? c == 0 : c > 0;
        };
    }

    private PlainDots.Sum sum() throws Fault {
        PlainDots.Sum left = product();
        while (peek().equals("+") || peek().equals("-")) {
            int factor = peek().equals("+") ? 1 : -1;
            at++;
            PlainDots.Sum a = left;
            PlainDots.Sum b = product();
            left = f -> a.value(f) + factor * b.value(f);
        }
        return left;
    }

    private PlainDots.Sum product() throws Fault {
        PlainDots.Sum left = unit();
        while (peek().equals("*") || peek().equals("/")) {
            boolean times = peek().equals("*");
            at++;
            PlainDots.Sum a = left;
            if (times) {
                PlainDots.Sum b = unit();
                left = f -> a.value(f) * b.value(f);
            } else {
                int part = number(1, 9999);
                left = f -> a.value(f) / part;
            }
        }
        return left;
    }

    private PlainDots.Sum unit() throws Fault {
        if (isNumber()) {
            int v = number(0, 9999);
            return f -> v;
        }
        String fact = peek();
        if (!FACTS.contains(fact)) {
            throw wrong(1);
        }
        at++;
        return f -> f.get(fact);
    }

    List<PlainDots.Hour> hours() throws Fault {
        List<PlainDots.Hour> lines = new ArrayList<>();
        while (!peek().isEmpty()) {
            begin(Set.of("one"), lines.size(), 16);
            at++;
            int one = number(0, 1);
            take("from");
            int from = number(0, 23);
            take("for");
            int hours = number(1, 24);
            int what = List.of("free", "bus", "busy", "sleep").indexOf(peek());
            if (what < 0) {
                throw wrong(1);
            }
            at++;
            take(";");
            lines.add(new PlainDots.Hour(one, from, hours, what));
        }
        return lines;
    }

    List<PlainDots.Saying> sayings() throws Fault {
        List<PlainDots.Saying> lines = new ArrayList<>();
        while (!peek().isEmpty()) {
            begin(Set.of("at"), lines.size(), 16);
            at++;
            int minute = number(0, 9999);
            take("one");
            int one = number(0, 1);
            if (peek().equals("deletes")) {
                at++;
                lines.add(new PlainDots.Saying(minute, one, true, 0, 0, false));
            } else {
                take("says");
                int lasting = number(1, 99);
                take("kisses");
                int kisses = number(0, 9);
                boolean stop = peek().equals("stop");
                at += stop ? 1 : 0;
                lines.add(new PlainDots.Saying(minute, one, false, lasting, kisses, stop));
            }
            take(";");
        }
        return lines;
    }

    List<PlainDots.Habit> habits() throws Fault {
        List<PlainDots.Habit> lines = new ArrayList<>();
        while (!peek().isEmpty()) {
            begin(Set.of("sign"), lines.size(), 8);
            at++;
            take("easy");
            int easy = number(1, 999);
            take("cross");
            int cross = number(1, 999);
            take(";");
            lines.add(new PlainDots.Habit(easy, cross));
        }
        return lines;
    }
}
