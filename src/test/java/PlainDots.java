import java.util.ArrayList;
import java.util.Arrays;
import java.util.HashMap;
import java.util.HashSet;
import java.util.List;
import java.util.Map;
import java.util.Set;
import java.util.TreeSet;
import java.util.function.Predicate;
import java.util.stream.Collectors;

/**
 * The document written down a second time, as plainly as can be and with the whole library, without a thought
 * of speed or room: what random runs of ThreeDots are held against.
 */
final class PlainDots {
    static final int NONE = -1;

    static final class Msg {
        int from;
        int sent;
        Integer read;
        int lasting;
        int kisses;
        boolean stop;
        Msg to;
        boolean back;
        Integer due;

        boolean open() {
            return read == null && !back;
        }
    }

    record Note(int minute, int what, int who, int which) { }

    record Hour(int one, int from, int hours, int what) { }

    record Saying(int minute, int one, boolean deletes, int lasting, int kisses, boolean stop) { }

    record Habit(int easy, int cross) { }

    interface Sum {
        int value(Map<String, Integer> facts);
    }

    record Rule(String word, Sum sum, Predicate<Map<String, Integer>> when) { }

    /** What goes on; copied whole for undoing, thinking and the image. */
    static final class Scene {
        int minute;
        int state;
        int[] cross = {10, 10};
        int[] took = {0, 0};
        int[] ticks = {1, 1};
        List<Msg> messages = new ArrayList<>();
        List<Note> book = new ArrayList<>();

        Scene copy() {
            Scene other = new Scene();
            other.minute = minute;
            other.state = state;
            other.cross = cross.clone();
            other.took = took.clone();
            other.ticks = ticks.clone();
            Map<Msg, Msg> twins = new HashMap<>();
            for (Msg m : messages) {
                Msg t = new Msg();
                t.from = m.from;
                t.sent = m.sent;
                t.read = m.read;
                t.lasting = m.lasting;
                t.kisses = m.kisses;
                t.stop = m.stop;
                t.to = m.to == null ? null : twins.get(m.to);
                t.back = m.back;
                t.due = m.due;
                twins.put(m, t);
                other.messages.add(t);
            }
            other.book = new ArrayList<>(book);
            return other;
        }

        int hour() {
            return minute / 60 % 24;
        }

        void note(int what, int who, Msg m) {
            if (book.size() < 150) {
                book.add(new Note(minute, what, who, m == null ? NONE : messages.indexOf(m)));
            }
        }
    }

    static final class Told {
        List<Rule> law = List.of();
        List<Hour> hours = List.of();
        List<Saying> sayings = List.of();
        List<Habit> habits = List.of();
        List<Integer> times = List.of();
        int[][] costs = new int[4][2];

        Told copy() {
            Told t = new Told();
            t.law = law;
            t.hours = hours;
            t.sayings = sayings;
            t.habits = habits;
            t.times = times;
            t.costs = Arrays.stream(costs).map(int[]::clone).toArray(int[][]::new);
            return t;
        }
    }

    Scene now = new Scene();
    Told told = new Told();
    Scene imageScene;
    Told imageTold;
    List<Scene> past = new ArrayList<>();
    String tape = "";
    int fault = 0;
    int place = NONE;

    // ---- what is told ----

    int state(int v) {
        int was = now.state;
        now.state = v;
        past.clear();
        return was;
    }

    boolean set(int what, int who, int v) {
        if (what < 0 || what > 3 || v < 0 || v > new int[] {9999, 99, 9999, 1}[what]) {
            return false;
        }
        if (what > 0 && who != 0 && who != 1) {
            return false;
        }
        past.clear();
        switch (what) {
            case 0 -> {
                now.minute = v;
                now.messages.clear();
            }
            case 1 -> now.cross[who] = v;
            case 2 -> now.took[who] = v;
            default -> now.ticks[who] = v;
        }
        return true;
    }

    void push() {
        past.add(now.copy());
        if (past.size() > 6) {
            past.remove(0);
        }
    }

    int say(int one, int lasting, int kisses, boolean stop) {
        if (one < 0 || one > 1 || lasting < 1 || lasting > 99 || kisses < 0 || kisses > 9
                || now.messages.size() == 60) {
            return NONE;
        }
        push();
        Msg m = put(now, one, lasting, kisses, stop, null);
        now.note(0, one, m);
        return now.messages.size() - 1;
    }

    static Msg put(Scene s, int one, int lasting, int kisses, boolean stop, Msg to) {
        if (s.messages.size() >= 60) {
            return null;
        }
        Msg m = new Msg();
        m.from = one;
        m.sent = s.minute;
        m.lasting = lasting;
        m.kisses = kisses;
        m.stop = stop;
        m.to = to;
        s.messages.add(m);
        return m;
    }

    boolean takeBack(int i) {
        if (i < 0 || i >= now.messages.size() || !now.messages.get(i).open()) {
            return false;
        }
        push();
        Msg m = now.messages.get(i);
        m.back = true;
        now.note(3, m.from, m);
        return true;
    }

    int ring() {
        push();
        for (int k = 0; k < 2; k++) {
            now.cross[k] = now.cross[k] < 20 ? 0 : now.cross[k] - 20;
        }
        now.messages.forEach(m -> m.due = null);
        now.note(4, NONE, null);
        return now.cross[0] + now.cross[1];
    }

    int minutes(int n) {
        if (n < 1 || n > 300 || now.minute + n > 99999) {
            return NONE;
        }
        int before = now.messages.size();
        for (int i = 0; i < n; i++) {
            push();
            minute(now, false, NONE, 0);
        }
        return now.messages.size() - before;
    }

    void minute(Scene s, boolean thought, int paced, int pace) {
        for (Saying line : told.sayings) {
            if (line.minute != s.minute) {
                continue;
            }
            if (!line.deletes) {
                Msg m = put(s, line.one, line.lasting, line.kisses, line.stop, null);
                if (m != null) {
                    s.note(0, line.one, m);
                }
            } else {
                Msg latest = null;
                for (Msg m : s.messages) {
                    latest = m.from == line.one && m.open() ? m : latest;
                }
                if (latest != null) {
                    latest.back = true;
                    s.note(3, line.one, latest);
                }
            }
        }
        for (Msg m : s.messages) {
            int one = 1 - m.from;
            if (m.open() && m.sent < s.minute && doing(one, s.hour()) < 2) {
                m.read = s.minute;
                s.note(1, one, m);
                int cross = s.cross[one] + law(s, one, m, "hurt");
                s.cross[one] = cross < 0 ? 0 : cross > 99 ? 99 : cross;
                int go = law(s, one, m, "go");
                boolean answers;
                if (thought) {
                    answers = go >= 500;
                } else {
                    s.state = 1664525 * s.state + 1013904223;
                    answers = (int) ((Integer.toUnsignedLong(s.state) / 256) % 1000) < go;
                }
                if (answers) {
                    m.due = s.minute + (paced == one ? pace : law(s, one, m, "delay"));
                }
            }
        }
        for (Msg m : List.copyOf(s.messages)) {
            if (m.due != null && m.due == s.minute) {
                m.due = null;
                int one = 1 - m.from;
                Msg answer = put(s, one, law(s, one, m, "lasts"), law(s, one, m, "kiss"), s.cross[one] > 49, m);
                if (answer != null) {
                    s.took[m.from] = Math.min(9999, s.minute - m.sent);
                    s.note(2, one, answer);
                }
            }
        }
        s.minute++;
        if (s.minute % 60 == 0 && s.hour() == 4) {
            s.cross[0] -= s.cross[0] / 10;
            s.cross[1] -= s.cross[1] / 10;
        }
    }

    int doing(int one, int hour) {
        for (Hour h : told.hours) {
            for (int i = 0; i < h.hours; i++) {
                if (h.one == one && (h.from + i) % 24 == hour) {
                    return h.what;
                }
            }
        }
        return 0;
    }

    int law(Scene s, int one, Msg m, String word) {
        return law(s, one, s.took[one], m.lasting, m.kisses, m.stop, word);
    }

    int law(Scene s, int one, int took, int lasting, int kisses, boolean stop, String word) {
        Map<String, Integer> f = new HashMap<>();
        f.put("one", one);
        f.put("cross", s.cross[one]);
        f.put("took", took);
        f.put("long", lasting);
        f.put("kisses", kisses);
        f.put("stop", stop ? 1 : 0);
        f.put("bus", doing(one, s.hour()) == 1 ? 1 : 0);
        f.put("hour", s.hour());
        f.put("ticks", s.ticks[1 - one]);
        f.put("many", s.messages.size());
        int v = switch (word) {
            case "delay" -> took;
            case "lasts" -> lasting / 2 + 1;
            case "kiss" -> kisses;
            case "hurt" -> stop ? 5 : 0;
            default -> 900;
        };
        for (Rule r : told.law) {
            if (r.word.equals(word) && (r.when == null || r.when.test(f))) {
                v = r.sum.value(f);
                break;
            }
        }
        int[] bounds = switch (word) {
            case "delay" -> new int[] {1, 999};
            case "lasts" -> new int[] {1, 99};
            case "kiss" -> new int[] {0, 9};
            case "hurt" -> new int[] {-50, 50};
            default -> new int[] {0, 1000};
        };
        return Math.max(bounds[0], Math.min(bounds[1], v));
    }

    int feed(int a, int b, int c, int d, int e) {
        if (tape.length() > 380) {
            return NONE;
        }
        StringBuilder more = new StringBuilder(tape);
        for (int n : new int[] {a, b, c, d, e}) {
            for (byte x : java.nio.ByteBuffer.allocate(4).putInt(n).array()) {
                more.append((char) (x & 255));
            }
        }
        tape = more.toString();
        return tape.length();
    }

    boolean end(int n) {
        if (n < 0 || n > tape.length()) {
            return false;
        }
        tape = tape.substring(0, n);
        return true;
    }

    int text(int k) {
        String source = tape;
        tape = "";
        fault = 0;
        place = NONE;
        if (k < 0 || k > 3) {
            return NONE;
        }
        try {
            PlainText t = new PlainText(source, k);
            switch (k) {
                case 0 -> told.law = t.law();
                case 1 -> told.hours = t.hours();
                case 2 -> told.sayings = t.sayings();
                default -> told.habits = t.habits();
            }
        } catch (PlainText.Fault f) {
            fault = f.what;
            place = f.place;
            return NONE;
        }
        if (k == 1 || k == 2) {
            past.clear();
        }
        return List.of(told.law.size(), told.hours.size(), told.sayings.size(), told.habits.size()).get(k);
    }

    int fault(int what) {
        return what == 0 ? fault : what == 1 ? place : NONE;
    }

    // ---- what is asked ----

    int of(int one, int what) {
        if (one < 0 || one > 1 || what < 0 || what > 3) {
            return NONE;
        }
        return new int[] {now.cross[one], now.took[one], now.ticks[one], doing(one, now.hour())}[what];
    }

    int number(Msg m) {
        return m == null ? NONE : now.messages.indexOf(m);
    }

    int message(int i, int what) {
        if (i < 0 || i >= now.messages.size() || what < 0 || what > 8) {
            return -2;
        }
        Msg m = now.messages.get(i);
        return new int[] {m.from, m.sent, m.read == null ? NONE : m.read, m.lasting, m.kisses, m.stop ? 1 : 0,
            number(m.to), m.back ? 1 : 0, m.due == null ? NONE : m.due}[what];
    }

    int asks(int i, int what) {
        if (i < 0 || i >= now.messages.size() || what < 0 || what > 4) {
            return -100;
        }
        Msg m = now.messages.get(i);
        return law(now, 1 - m.from, m, new String[] {"delay", "lasts", "kiss", "hurt", "go"}[what]);
    }

    int book(int i, int what) {
        if (i < 0 || i >= now.book.size() || what < 0 || what > 3) {
            return -2;
        }
        Note n = now.book.get(i);
        return new int[] {n.minute, n.what, n.who, n.which}[what];
    }

    Scene think(Scene from, int n, int paced, int pace) {
        Scene s = from.copy();
        for (int i = 0; i < n; i++) {
            minute(s, true, paced, pace);
        }
        return s;
    }

    int goes(int n, int what) {
        if (n < 1 || n > 999 || what < 0 || what > 3) {
            return -2;
        }
        Scene s = think(now, n, NONE, 0);
        int whose = NONE;
        for (Msg m : s.messages) {
            whose = m.back ? whose : m.from;
        }
        return new int[] {s.messages.size(), whose, s.cross[0], s.cross[1]}[what];
    }

    int copies(int t, int l, int what) {
        if (t < 0 || t > 999 || l < 1 || l > 99 || what < 0 || what > 2) {
            return NONE;
        }
        List<List<Integer>> couples = new ArrayList<>();
        int greatest = 0;
        int took = t;
        for (int i = 0; i < 60; i++) {
            took = law(now, i % 2, took, l, 0, false, "delay");
            greatest = Math.max(greatest, took);
            couples.add(List.of(i % 2, took));
        }
        if (what == 2) {
            return greatest;
        }
        for (int i = 0; i < 60; i++) {
            int ahead = couples.indexOf(couples.get(i));
            if (ahead < i) {
                return what == 0 ? i + 1 : i - ahead;
            }
        }
        return NONE;
    }

    int surer(int q, int sign, boolean shows) {
        Habit h = told.habits.get(sign);
        long c = shows ? h.cross : 1000 - h.cross;
        long e = shows ? h.easy : 1000 - h.easy;
        return (int) (1_000_000L * q * c / (q * c + (1_000_000L - q) * e));
    }

    int sure(int p, int shown, int not) {
        if (p < 0 || p > 1000) {
            return NONE;
        }
        for (int i = 0; i < 32; i++) {
            boolean a = (shown & 1 << i) != 0;
            boolean b = (not & 1 << i) != 0;
            if (a && b || (a || b) && i >= told.habits.size()) {
                return NONE;
            }
        }
        int q = 1000 * p;
        for (int i = 0; i < told.habits.size(); i++) {
            if ((shown & 1 << i) != 0) {
                q = surer(q, i, true);
            } else if ((not & 1 << i) != 0) {
                q = surer(q, i, false);
            }
        }
        return q;
    }

    int needs(int p, int sign) {
        if (p < 0 || p > 1000 || sign < 0 || sign >= told.habits.size()) {
            return NONE;
        }
        int q = 1000 * p;
        int times = 0;
        while (q < 500000 && times <= 60) {
            q = surer(q, sign, true);
            times++;
        }
        return times > 60 ? NONE : times;
    }

    int waits(int p) {
        if (p < 0 || p > 1000 || told.habits.isEmpty()) {
            return NONE;
        }
        int best = 0;
        for (int i = 1; i < told.habits.size(); i++) {
            if (apart(p, i) > apart(p, best)) {
                best = i;
            }
        }
        return best;
    }

    int apart(int p, int i) {
        return Math.abs(sure(p, 1 << i, 0) - sure(p, 0, 1 << i));
    }

    List<Msg> answers() {
        return now.messages.stream().filter(m -> m.to != null && !m.back).collect(Collectors.toList());
    }

    List<Msg> waiting(int one) {
        Set<Msg> answered = new HashSet<>();
        answers().forEach(a -> answered.add(a.to));
        return now.messages.stream().filter(m -> m.from != one && !m.back && !answered.contains(m))
            .collect(Collectors.toList());
    }

    int which(int one) {
        if (one < 0 || one > 1) {
            return NONE;
        }
        Msg best = null;
        for (Msg m : waiting(one)) {
            if (best == null || m.lasting + 10 * m.kisses >= best.lasting + 10 * best.kisses) {
                best = m;
            }
        }
        return number(best);
    }

    int drift(int one, int what) {
        if (one < 0 || one > 1 || what < 0 || what > 1) {
            return -100;
        }
        List<Integer> k = now.messages.stream().filter(m -> m.from == one && !m.back).map(m -> m.kisses)
            .collect(Collectors.toList());
        int[] longest = new int[k.size()];
        int best = 0;
        int sum = 0;
        for (int i = 0; i < k.size(); i++) {
            longest[i] = 1;
            for (int j = 0; j < i; j++) {
                if (k.get(j) > k.get(i)) {
                    longest[i] = Math.max(longest[i], longest[j] + 1);
                }
            }
            best = Math.max(best, longest[i]);
            if (i > 0) {
                sum += k.get(i) > k.get(i - 1) ? 1 : k.get(i) < k.get(i - 1) ? -1 : 0;
            }
        }
        return what == 0 ? best : sum;
    }

    int pauses(int one, int what) {
        if (one < 0 || one > 1 || what < 0 || what > 2) {
            return NONE;
        }
        if (what == 2) {
            return waiting(one).size();
        }
        var all = answers().stream().filter(a -> a.from == one).mapToInt(a -> a.sent - a.to.sent);
        return what == 0 ? all.sum() : all.max().orElse(0);
    }

    int time(int v) {
        if (v == NONE) {
            told.times = List.of();
            return 0;
        }
        if (v < 0 || v > 1439 || told.times.size() == 10) {
            return NONE;
        }
        List<Integer> more = new ArrayList<>(told.times);
        more.add(v);
        told.times = more;
        return more.size();
    }

    int fits(int what) {
        if (what < 0 || what > 2) {
            return NONE;
        }
        int many = 0;
        int longest = NONE;
        int first = NONE;
        for (int between = 10; between <= 60; between++) {
            for (int start = between - 1; start >= 0; start--) {
                Set<Integer> good = new HashSet<>();
                for (int t = start; t < 1440; t += between) {
                    good.add(t);
                    good.add(t + 1);
                }
                if (good.containsAll(told.times)) {
                    many++;
                    longest = between;
                    first = start;
                }
            }
        }
        return what == 0 ? many : what == 1 ? longest : first;
    }

    int[] grundy(int most, int size) {
        int[] g = new int[size + 1];
        for (int n = 1; n <= size; n++) {
            Set<Integer> next = new TreeSet<>();
            for (int k = 1; k <= Math.min(most, n); k++) {
                next.add(g[n - k]);
            }
            while (next.contains(g[n])) {
                g[n]++;
            }
        }
        return g;
    }

    int game(int what) {
        if (what < 0 || what > 1) {
            return NONE;
        }
        List<Msg> heaps = now.messages.stream().filter(Msg::open).collect(Collectors.toList());
        int all = 0;
        for (Msg m : heaps) {
            all ^= grundy(m.kisses + 1, m.lasting)[m.lasting];
        }
        for (Msg m : heaps) {
            int[] g = grundy(m.kisses + 1, m.lasting);
            for (int k = 1; k <= Math.min(m.kisses + 1, m.lasting); k++) {
                if ((all ^ g[m.lasting] ^ g[m.lasting - k]) == 0) {
                    return what == 0 ? number(m) : k;
                }
            }
        }
        return NONE;
    }

    boolean table(int k, int a, int b) {
        if (k < 0 || k > 3 || a < 0 || a > 99 || b < 0 || b > 99) {
            return false;
        }
        told.costs[k] = new int[] {a, b};
        return true;
    }

    int rests() {
        int set = 0;
        for (int a = 0; a < 2; a++) {
            for (int b = 0; b < 2; b++) {
                int[] here = told.costs[2 * a + b];
                if (told.costs[2 * (1 - a) + b][0] >= here[0] && told.costs[2 * a + 1 - b][1] >= here[1]) {
                    set += 1 << 2 * a + b;
                }
            }
        }
        return set;
    }

    int deletes(int one, int n, int what) {
        if (one < 0 || one > 1 || n < 1 || n > 300 || what < 0 || what > 1) {
            return NONE;
        }
        List<Integer> his = new ArrayList<>();
        for (int i = 0; i < now.messages.size(); i++) {
            if (now.messages.get(i).from == one && now.messages.get(i).open() && his.size() < 4) {
                his.add(i);
            }
        }
        List<List<Integer>> tries = new ArrayList<>();
        for (int set = 0; set < 1 << his.size(); set++) {
            Scene s = now.copy();
            for (int k = 0; k < his.size(); k++) {
                if ((set >> k) % 2 == 1) {
                    s.messages.get(his.get(k)).back = true;
                }
            }
            tries.add(List.of(think(s, n, NONE, 0).cross[1 - one], Integer.bitCount(set), set));
        }
        tries.sort((a, b) -> {
            int c = a.get(0) - b.get(0);
            c = c != 0 ? c : a.get(1) - b.get(1);
            return c != 0 ? c : a.get(2) - b.get(2);
        });
        return tries.get(0).get(what == 0 ? 0 : 2);
    }

    int dear(Msg m) {
        int best = 0;
        for (Msg a : answers()) {
            if (a.to == m) {
                best = Math.max(best, dear(a));
            }
        }
        return m.kisses + best;
    }

    int thread(int what) {
        if (what < 0 || what > 1) {
            return NONE;
        }
        Msg best = null;
        for (Msg m : now.messages) {
            if (!m.back && (best == null || dear(m) > dear(best))) {
                best = m;
            }
        }
        return best == null ? NONE : what == 0 ? dear(best) : number(best);
    }

    int crossed() {
        int many = 0;
        for (Msg a : now.messages) {
            for (Msg b : now.messages) {
                if (a.from == 0 && b.from == 1 && !a.back && !b.back) {
                    Msg first = a.sent <= b.sent ? a : b;
                    Msg other = first == a ? b : a;
                    many += first.read != null && first.read < other.sent ? 0 : 1;
                }
            }
        }
        return many;
    }

    int awake(int n, int what) {
        if (n < 1 || n > 48 || what < 0 || what > 2) {
            return NONE;
        }
        StringBuilder row = new StringBuilder();
        for (int i = 0; i < n; i++) {
            int h = (now.hour() + i) % 24;
            row.append(doing(0, h) < 2 && doing(1, h) < 2 ? 'x' : ' ');
        }
        if (what == 0) {
            return row.toString().replace(" ", "").length();
        }
        if (what == 1) {
            return row.indexOf("x");
        }
        return Arrays.stream(row.toString().split(" ")).mapToInt(String::length).max().orElse(0);
    }

    int mirrors(int l, int what) {
        if (l < 1 || l > 99 || what < 0 || what > 1) {
            return NONE;
        }
        int lasting = l;
        for (int i = 0; i < 60; i++) {
            int next = law(now, i % 2, now.took[i % 2], lasting, 0, false, "lasts");
            if (next == lasting) {
                return what == 0 ? i + 1 : next;
            }
            lasting = next;
        }
        return what == 0 ? NONE : lasting;
    }

    int ease(int one, int n, int what) {
        if (one < 0 || one > 1 || n < 1 || n > 300 || what < 0 || what > 1) {
            return NONE;
        }
        int best = NONE;
        int least = 0;
        for (int e = 8; e >= 0; e--) {
            Scene s = think(now, n, one, 1 << e);
            int cross = s.cross[0] + s.cross[1];
            if (best == NONE || cross <= least) {
                least = cross;
                best = 1 << e;
            }
        }
        return what == 0 ? best : least;
    }

    static int farness(List<Integer> part) {
        if (part.isEmpty()) {
            return 0;
        }
        List<Integer> sorted = part.stream().sorted().collect(Collectors.toList());
        int middle = sorted.get((sorted.size() + 1) / 2 - 1);
        return sorted.stream().mapToInt(p -> Math.abs(p - middle)).sum();
    }

    int split(int what) {
        if (what < 0 || what > 1 || answers().size() < 2) {
            return NONE;
        }
        List<Integer> all = answers().stream().map(a -> a.sent - a.to.sent).collect(Collectors.toList());
        int best = NONE;
        int least = Integer.MAX_VALUE;
        int stop = all.stream().mapToInt(p -> p).max().orElse(0) + 2;
        for (int x = 1; x <= Math.min(9999, stop); x++) {
            int number = x;
            int cost = farness(all.stream().filter(p -> p < number).collect(Collectors.toList()))
                + farness(all.stream().filter(p -> p >= number).collect(Collectors.toList()));
            if (cost < least) {
                least = cost;
                best = x;
            }
        }
        int cut = best;
        return what == 0 ? best
            : (int) answers().stream().filter(a -> a.from == 0 && a.sent - a.to.sent < cut).count();
    }

    boolean undo() {
        if (past.isEmpty()) {
            return false;
        }
        now = past.remove(past.size() - 1);
        return true;
    }

    boolean image(boolean taken) {
        if (taken) {
            imageScene = now.copy();
            imageTold = told.copy();
            return true;
        }
        if (imageScene == null) {
            return false;
        }
        now = imageScene.copy();
        told = imageTold.copy();
        past.clear();
        return true;
    }

    int look(int what) {
        if (what < 0 || what > 10) {
            return NONE;
        }
        return new int[] {now.minute, now.messages.size(), now.hour(), now.book.size(), now.state, told.law.size(),
            told.hours.size(), told.sayings.size(), told.habits.size(), told.times.size(), past.size()}[what];
    }
}
