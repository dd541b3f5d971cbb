/** Two who write to one another by minutes: what they did, and in thought what they would do. */
public final class ThreeDots {
    public static final int NONE = -1;

    private static final int NO_LINE = NONE - 1;
    private static final int NOTHING_TOLD = NONE - 99;
    private static final int LAST_MINUTE = 99999;
    private static final int MOST_MINUTES = 300;
    private static final int MOST_ANSWERS = 60;
    private static final int ABOVE_ANY_CROSS = 1000;

    private final World now;
    private final World image;
    private final Past past;
    private final Reader reader;
    private final Judge judge;
    private final Course course;
    private final Talk thought;
    private final Glance glance;
    private final int[] delays;
    private boolean imaged;

    public ThreeDots() {
        now = new World();
        image = new World();
        past = new Past();
        reader = new Reader();
        judge = new Judge();
        course = new Course(now, judge);
        thought = new Talk();
        glance = new Glance();
        delays = new int[MOST_ANSWERS + 1];
        imaged = false;
    }

    public int state(int v) {
        int was = now.talk.state;
        now.talk.state = v;
        past.forget();
        return was;
    }

    public boolean set(int what, int who, int v) {
        if (what == 0 ? !within(v, 0, 9999) : !isOne(who)) {
            return false;
        }
        Talk talk = now.talk;
        if (what == 0) {
            talk.minute = v;
            talk.clearMessages();
        } else if (what == 1 && within(v, 0, 99)) {
            talk.cross[who] = v;
        } else if (what == 2 && within(v, 0, 9999)) {
            talk.took[who] = v;
        } else if (what == 3 && within(v, 0, 1)) {
            talk.ticks[who] = v;
        } else {
            return false;
        }
        past.forget();
        return true;
    }

    public int say(int one, int lasting, int kisses, boolean stop) {
        if (!isOne(one) || !within(lasting, 1, 99) || !within(kisses, 0, 9) || now.talk.isFull()) {
            return NONE;
        }
        past.keep(now.talk);
        course.begin(now.talk, false);
        return course.utter(one, lasting, kisses, stop ? 1 : 0);
    }

    public boolean takeBack(int message) {
        if (!now.talk.has(message) || !now.talk.isOpen(message)) {
            return false;
        }
        past.keep(now.talk);
        course.begin(now.talk, false);
        course.withdraw(message);
        return true;
    }

    public int ring() {
        past.keep(now.talk);
        course.begin(now.talk, false);
        course.ringUp();
        return now.talk.crossTogether();
    }

    public int minutes(int n) {
        if (!within(n, 1, MOST_MINUTES) || now.talk.minute + n > LAST_MINUTE) {
            return NONE;
        }
        int before = now.talk.count;
        course.begin(now.talk, false);
        // Only the last ones need keeping: those ahead of them would be pushed out at once.
        int last = Math.min(n, Past.MOST);
        course.go(n - last);
        for (int i = 0; i < last; i++) {
            past.keep(now.talk);
            course.pass();
        }
        return now.talk.count - before;
    }

    public int feed(int a, int b, int c, int d, int e) {
        if (!reader.hasRoom(20)) {
            return NONE;
        }
        reader.append(a);
        reader.append(b);
        reader.append(c);
        reader.append(d);
        reader.append(e);
        return reader.length;
    }

    public boolean end(int n) {
        if (!within(n, 0, reader.length)) {
            return false;
        }
        reader.length = n;
        return true;
    }

    public int text(int k) {
        reader.cutTokens(k);
        if (!within(k, 0, World.TEXTS - 1) || !reader.parse(k)) {
            return NONE;
        }
        now.texts[k].copyFrom(reader.sheet);
        if (k == World.HOURS || k == World.SAYINGS) {
            past.forget();
        }
        return now.texts[k].lines;
    }

    public int fault(int what) {
        if (what == 0) {
            return reader.fault;
        }
        return what == 1 ? reader.faultPlace : NONE;
    }

    public int of(int one, int what) {
        if (!isOne(one)) {
            return NONE;
        }
        switch (what) {
            case 0:
                return now.talk.cross[one];
            case 1:
                return now.talk.took[one];
            case 2:
                return now.talk.ticks[one];
            case 3:
                return now.doing(one, now.talk.hour());
            default:
                return NONE;
        }
    }

    public int message(int i, int what) {
        if (!now.talk.has(i)) {
            return NO_LINE;
        }
        switch (what) {
            case 0:
                return now.talk.from[i];
            case 1:
                return now.talk.sent[i];
            case 2:
                return now.talk.read[i];
            case 3:
                return now.talk.lasting[i];
            case 4:
                return now.talk.kisses[i];
            case 5:
                return now.talk.stop[i];
            case 6:
                return now.talk.to[i];
            case 7:
                return now.talk.back[i];
            case 8:
                return now.talk.due[i];
            default:
                return NO_LINE;
        }
    }

    public int asks(int i, int what) {
        if (!now.talk.has(i) || !within(what, Judge.DELAY, Judge.GO)) {
            return NOTHING_TOLD;
        }
        judge.sit(now, now.talk, 1 - now.talk.from[i]);
        judge.lay(now.talk.lasting[i], now.talk.kisses[i], now.talk.stop[i]);
        return judge.tells(now.texts[World.LAW], what);
    }

    public int book(int i, int what) {
        if (!within(i, 0, now.talk.noted - 1) || !within(what, 0, World.BOOK_WIDTH - 1)) {
            return NO_LINE;
        }
        return now.book[i * World.BOOK_WIDTH + what];
    }

    public int goes(int n, int what) {
        if (!within(n, 1, 999) || !within(what, 0, 3)) {
            return NO_LINE;
        }
        imagine();
        course.go(n);
        if (what == 0) {
            return thought.count;
        }
        return what == 1 ? thought.whoseIsLast() : thought.cross[what - 2];
    }

    public int copies(int t, int l, int what) {
        if (!within(t, 0, 999) || !within(l, 1, 99) || !within(what, 0, 2)) {
            return NONE;
        }
        int greatest = 0;
        int took = t;
        for (int i = 1; i <= MOST_ANSWERS; i++) {
            judge.sit(now, now.talk, (i - 1) % 2);
            judge.lay(l, 0, 0);
            judge.facts[Judge.TOOK] = took;
            took = judge.tells(now.texts[World.LAW], Judge.DELAY);
            delays[i] = took;
            greatest = Math.max(greatest, took);
        }
        return what == 2 ? greatest : comesRound(what);
    }

    public int sure(int p, int shown, int not) {
        int all = (1 << now.signs()) - 1;
        if (!within(p, 0, 1000) || (shown & not) != 0 || ((shown | not) & ~all) != 0) {
            return NONE;
        }
        int sure = p * 1000;
        for (int i = 0; i < now.signs(); i++) {
            if ((((shown | not) >> i) & 1) != 0) {
                sure = now.surer(sure, i, ((shown >> i) & 1) != 0);
            }
        }
        return sure;
    }

    public int needs(int p, int sign) {
        if (!within(p, 0, 1000) || !within(sign, 0, now.signs() - 1)) {
            return NONE;
        }
        int sure = p * 1000;
        for (int times = 0; times <= MOST_ANSWERS; times++) {
            if (sure >= 500000) {
                return times;
            }
            sure = now.surer(sure, sign, true);
        }
        return NONE;
    }

    public int waits(int p) {
        if (!within(p, 0, 1000)) {
            return NONE;
        }
        int best = NONE;
        int widest = NONE;
        for (int i = 0; i < now.signs(); i++) {
            int apart = Math.abs(now.surer(p * 1000, i, true) - now.surer(p * 1000, i, false));
            if (apart > widest) {
                widest = apart;
                best = i;
            }
        }
        return best;
    }

    public int which(int one) {
        return isOne(one) ? glance.worthiest(now.talk, one) : NONE;
    }

    public int drift(int one, int what) {
        if (!isOne(one) || !within(what, 0, 1)) {
            return NOTHING_TOLD;
        }
        return what == 0 ? glance.longestFall(now.talk, one) : glance.risesLessFalls(now.talk, one);
    }

    public int pauses(int one, int what) {
        if (!isOne(one)) {
            return NONE;
        }
        switch (what) {
            case 0:
                return glance.pauseSum(now.talk, one);
            case 1:
                return glance.greatestPause(now.talk, one);
            case 2:
                return glance.waiting(now.talk, one);
            default:
                return NONE;
        }
    }

    public int time(int v) {
        if (v == NONE) {
            now.timesTold = 0;
            return 0;
        }
        if (!within(v, 0, 1439) || now.timesTold >= World.MOST_TIMES) {
            return NONE;
        }
        now.times[now.timesTold] = v;
        now.timesTold++;
        return now.timesTold;
    }

    public int fits(int what) {
        if (!within(what, 0, 2)) {
            return NONE;
        }
        int many = 0;
        int longest = NONE;
        int first = NONE;
        for (int between = 60; between >= 10; between--) {
            for (int start = 0; start < between; start++) {
                if (now.busFits(between, start)) {
                    many++;
                    if (longest == NONE) {
                        longest = between;
                        first = start;
                    }
                }
            }
        }
        if (what == 0) {
            return many;
        }
        return what == 1 ? longest : first;
    }

    public int game(int what) {
        if (!within(what, 0, 1)) {
            return NONE;
        }
        Talk talk = now.talk;
        int worth = glance.gameWorth(talk);
        for (int i = 0; i < talk.count && worth != 0; i++) {
            int taken = talk.isOpen(i) ? glance.winningTake(talk, i, worth) : NONE;
            if (taken != NONE) {
                return what == 0 ? i : taken;
            }
        }
        return NONE;
    }

    public boolean table(int k, int a, int b) {
        if (!within(k, 0, 3) || !within(a, 0, 99) || !within(b, 0, 99)) {
            return false;
        }
        now.costs[k] = a;
        now.costs[k + 4] = b;
        return true;
    }

    public int rests() {
        int set = 0;
        for (int k = 0; k < 4; k++) {
            boolean first = now.costs[k ^ 2] >= now.costs[k];
            boolean second = now.costs[4 + (k ^ 1)] >= now.costs[4 + k];
            if (first && second) {
                set |= 1 << k;
            }
        }
        return set;
    }

    public int deletes(int one, int n, int what) {
        if (!isOne(one) || !within(n, 1, MOST_MINUTES) || !within(what, 0, 1)) {
            return NONE;
        }
        int choices = 1 << Math.min(4, now.talk.openOf(one));
        int least = ABOVE_ANY_CROSS;
        int best = 0;
        for (int set = 0; set < choices; set++) {
            imagine();
            course.withdrawSet(one, set);
            course.go(n);
            int cross = thought.cross[1 - one];
            boolean fewer = Integer.bitCount(set) < Integer.bitCount(best);
            if (cross < least || (cross == least && fewer)) {
                least = cross;
                best = set;
            }
        }
        return what == 0 ? least : best;
    }

    public int thread(int what) {
        if (!within(what, 0, 1)) {
            return NONE;
        }
        int first = glance.dearest(now.talk);
        return what == 1 || first == NONE ? first : glance.dear[first];
    }

    public int crossed() {
        return glance.crossings(now.talk);
    }

    public int awake(int n, int what) {
        if (!within(n, 1, 48) || !within(what, 0, 2)) {
            return NONE;
        }
        int many = 0;
        int first = NONE;
        int run = 0;
        int longest = 0;
        for (int i = 0; i < n; i++) {
            int hour = (now.talk.hour() + i) % 24;
            boolean both = now.reads(0, hour) && now.reads(1, hour);
            run = both ? run + 1 : 0;
            many += both ? 1 : 0;
            first = both && first == NONE ? i : first;
            longest = Math.max(longest, run);
        }
        if (what == 0) {
            return many;
        }
        return what == 1 ? first : longest;
    }

    public int mirrors(int l, int what) {
        if (!within(l, 1, 99) || !within(what, 0, 1)) {
            return NONE;
        }
        int lasting = l;
        for (int i = 1; i <= MOST_ANSWERS; i++) {
            judge.sit(now, now.talk, (i - 1) % 2);
            judge.lay(lasting, 0, 0);
            int answer = judge.tells(now.texts[World.LAW], Judge.LASTS);
            if (answer == lasting) {
                return what == 0 ? i : answer;
            }
            lasting = answer;
        }
        return what == 0 ? NONE : lasting;
    }

    public int ease(int one, int n, int what) {
        if (!isOne(one) || !within(n, 1, MOST_MINUTES) || !within(what, 0, 1)) {
            return NONE;
        }
        int least = ABOVE_ANY_CROSS;
        int best = NONE;
        for (int pace = 1; pace <= 256; pace *= 2) {
            imagine();
            course.keepPace(one, pace);
            course.go(n);
            if (thought.crossTogether() < least) {
                least = thought.crossTogether();
                best = pace;
            }
        }
        return what == 0 ? best : least;
    }

    public int split(int what) {
        if (!within(what, 0, 1)) {
            return NONE;
        }
        glance.gatherPauses(now.talk);
        if (glance.gathered < 2) {
            return NONE;
        }
        int number = glance.bestCut();
        return what == 0 ? number : glance.ofFirstBelow(number);
    }

    public boolean undo() {
        return past.goBack(now.talk);
    }

    public boolean image(boolean taken) {
        if (taken) {
            image.copyFrom(now);
            imaged = true;
        } else if (imaged) {
            now.copyFrom(image);
            past.forget();
        }
        return imaged;
    }

    public int look(int what) {
        switch (what) {
            case 0:
                return now.talk.minute;
            case 1:
                return now.talk.count;
            case 2:
                return now.talk.hour();
            case 3:
                return now.talk.noted;
            case 4:
                return now.talk.state;
            case 5:
                return now.texts[World.LAW].lines;
            case 6:
                return now.texts[World.HOURS].lines;
            case 7:
                return now.texts[World.SAYINGS].lines;
            case 8:
                return now.signs();
            case 9:
                return now.timesTold;
            case 10:
                return past.kept;
            default:
                return NONE;
        }
    }

    private static boolean within(int v, int least, int most) {
        return v >= least && v <= most;
    }

    private static boolean isOne(int one) {
        return one == 0 || one == 1;
    }

    private void imagine() {
        thought.copyFrom(now.talk);
        course.begin(thought, true);
    }

    /** Of the delays laid down: the first that came before with the same one (0), or how far behind that (1). */
    private int comesRound(int what) {
        for (int i = 1; i <= MOST_ANSWERS; i++) {
            // Answers of the same one stand at every second place.
            for (int j = i - 2; j >= 1; j -= 2) {
                if (delays[i] == delays[j]) {
                    return what == 0 ? i : i - j;
                }
            }
        }
        return NONE;
    }

    /** All that a minute, a saying, a taking back or a ringing can change: what undoing brings back. */
    static final class Talk {
        static final int MOST = 60;

        int minute;
        int state;
        int count;
        int noted;
        int open;
        int awaited;
        final int[] cross;
        final int[] took;
        final int[] ticks;
        final int[] from;
        final int[] sent;
        final int[] read;
        final int[] lasting;
        final int[] kisses;
        final int[] stop;
        final int[] to;
        final int[] back;
        final int[] due;

        Talk() {
            cross = new int[] {10, 10};
            took = new int[2];
            ticks = new int[] {1, 1};
            from = new int[MOST];
            sent = new int[MOST];
            read = new int[MOST];
            lasting = new int[MOST];
            kisses = new int[MOST];
            stop = new int[MOST];
            to = new int[MOST];
            back = new int[MOST];
            due = new int[MOST];
        }

        void copyFrom(Talk other) {
            minute = other.minute;
            state = other.state;
            count = other.count;
            noted = other.noted;
            open = other.open;
            awaited = other.awaited;
            for (int one = 0; one < 2; one++) {
                cross[one] = other.cross[one];
                took[one] = other.took[one];
                ticks[one] = other.ticks[one];
            }
            System.arraycopy(other.from, 0, from, 0, count);
            System.arraycopy(other.sent, 0, sent, 0, count);
            System.arraycopy(other.read, 0, read, 0, count);
            System.arraycopy(other.lasting, 0, lasting, 0, count);
            System.arraycopy(other.kisses, 0, kisses, 0, count);
            System.arraycopy(other.stop, 0, stop, 0, count);
            System.arraycopy(other.to, 0, to, 0, count);
            System.arraycopy(other.back, 0, back, 0, count);
            System.arraycopy(other.due, 0, due, 0, count);
        }

        int hour() {
            return minute / 60 % 24;
        }

        int crossTogether() {
            return cross[0] + cross[1];
        }

        boolean isFull() {
            return count >= MOST;
        }

        boolean has(int i) {
            return i >= 0 && i < count;
        }

        boolean isOpen(int i) {
            return read[i] == NONE && back[i] == 0;
        }

        void clearMessages() {
            count = 0;
            open = 0;
            awaited = 0;
        }

        /** A new message that answers another (or none); its number, or none if there is no room. */
        int add(int one, int lasts, int kiss, int full, int answered) {
            if (isFull()) {
                return NONE;
            }
            int i = count;
            from[i] = one;
            sent[i] = minute;
            read[i] = NONE;
            lasting[i] = lasts;
            kisses[i] = kiss;
            stop[i] = full;
            to[i] = answered;
            back[i] = 0;
            due[i] = NONE;
            count++;
            open++;
            return i;
        }

        int latestOpenOf(int one) {
            for (int i = count - 1; i >= 0; i--) {
                if (from[i] == one && isOpen(i)) {
                    return i;
                }
            }
            return NONE;
        }

        int openOf(int one) {
            int many = 0;
            for (int i = 0; i < count; i++) {
                many += from[i] == one && isOpen(i) ? 1 : 0;
            }
            return many;
        }

        int whoseIsLast() {
            for (int i = count - 1; i >= 0; i--) {
                if (back[i] == 0) {
                    return from[i];
                }
            }
            return NONE;
        }

        /** Whether i answers a message and still counts as an answer. */
        boolean isAnswer(int i) {
            return back[i] == 0 && has(to[i]);
        }

        int pauseOf(int i) {
            return has(to[i]) ? sent[i] - sent[to[i]] : 0;
        }

        /** Whether i was sent to this one, stands, and has no answer that stands. */
        boolean waitsFor(int one, int i) {
            if (from[i] == one || back[i] != 0) {
                return false;
            }
            for (int j = i + 1; j < count; j++) {
                if (to[j] == i && back[j] == 0) {
                    return false;
                }
            }
            return true;
        }
    }

    /** A text as it was read: lines of equally many cells, and the steps of the law's sums. */
    static final class Sheet {
        int lines;
        int width;
        int filled;
        int steps;
        final int[] cells;
        final int[] code;

        Sheet(int mostCells, int mostSteps) {
            cells = new int[mostCells];
            code = new int[mostSteps];
        }

        void clear(int newWidth) {
            lines = 0;
            width = newWidth;
            filled = 0;
            steps = 0;
        }

        void copyFrom(Sheet other) {
            lines = other.lines;
            width = other.width;
            filled = Math.min(other.filled, cells.length);
            steps = Math.min(other.steps, code.length);
            System.arraycopy(other.cells, 0, cells, 0, filled);
            System.arraycopy(other.code, 0, code, 0, steps);
        }

        int cell(int line, int k) {
            int at = line * width + k;
            return at >= 0 && at < filled ? cells[at] : 0;
        }

        void put(int v) {
            if (filled < cells.length) {
                cells[filled] = v;
                filled++;
            }
        }

        void emit(int step) {
            if (steps < code.length) {
                code[steps] = step;
                steps++;
            }
        }
    }

    /** All that is and was told: what the image holds. */
    static final class World {
        static final int TEXTS = 4;
        static final int LAW = 0;
        static final int HOURS = 1;
        static final int SAYINGS = 2;
        static final int HABITS = 3;
        static final int MOST_TIMES = 10;
        static final int BOOK_WIDTH = 4;
        static final int BOOK_LINES = 150;
        static final int BUS = 1;

        final Talk talk;
        final int[] book;
        final Sheet[] texts;
        final int[] times;
        int timesTold;
        final int[] costs;

        World() {
            talk = new Talk();
            book = new int[BOOK_LINES * BOOK_WIDTH];
            texts = new Sheet[] {
                new Sheet(64, Reader.MOST), new Sheet(64, 0), new Sheet(96, 0), new Sheet(16, 0)
            };
            times = new int[MOST_TIMES];
            costs = new int[8];
        }

        void copyFrom(World other) {
            talk.copyFrom(other.talk);
            System.arraycopy(other.book, 0, book, 0, other.talk.noted * BOOK_WIDTH);
            for (int k = 0; k < TEXTS; k++) {
                texts[k].copyFrom(other.texts[k]);
            }
            timesTold = other.timesTold;
            System.arraycopy(other.times, 0, times, 0, timesTold);
            System.arraycopy(other.costs, 0, costs, 0, 8);
        }

        /** What one is in an hour: 0 free, 1 on a bus, 2 busy, 3 asleep. */
        int doing(int one, int hour) {
            Sheet hours = texts[HOURS];
            for (int i = 0; i < hours.lines; i++) {
                int since = (hour - hours.cell(i, 1) + 24) % 24;
                if (hours.cell(i, 0) == one && since < hours.cell(i, 2)) {
                    return hours.cell(i, 3);
                }
            }
            return 0;
        }

        boolean reads(int one, int hour) {
            return doing(one, hour) <= BUS;
        }

        int signs() {
            return texts[HABITS].lines;
        }

        /** Of a million how sure it is that one is cross, once a sign shows or doesn't. */
        int surer(int sure, int sign, boolean shows) {
            int easy = texts[HABITS].cell(sign, 0);
            int cross = texts[HABITS].cell(sign, 1);
            long ifCross = (long) sure * (shows ? cross : 1000 - cross);
            long ifEasy = (1000000L - sure) * (shows ? easy : 1000 - easy);
            long all = ifCross + ifEasy;
            return all > 0 ? (int) (ifCross * 1000000L / all) : sure;
        }

        boolean busFits(int between, int start) {
            for (int i = 0; i < timesTold && between > 0; i++) {
                int since = times[i] - start;
                if (since < 0 || since % between > 1) {
                    return false;
                }
            }
            return true;
        }
    }

    /** What can be undone: the latest few talks, the oldest pushed out by the newest. */
    static final class Past {
        static final int MOST = 6;

        final Talk[] talks;
        int first;
        int kept;

        Past() {
            talks = new Talk[MOST];
            for (int i = 0; i < MOST; i++) {
                talks[i] = new Talk();
            }
        }

        void keep(Talk talk) {
            talks[(first + kept) % MOST].copyFrom(talk);
            if (kept < MOST) {
                kept++;
            } else {
                first = (first + 1) % MOST;
            }
        }

        boolean goBack(Talk talk) {
            if (kept == 0) {
                return false;
            }
            kept--;
            talk.copyFrom(talks[(first + kept) % MOST]);
            return true;
        }

        void forget() {
            kept = 0;
        }
    }

    /** Tells by the law what one does who has a message before him. */
    static final class Judge {
        static final int DELAY = 0;
        static final int LASTS = 1;
        static final int KISS = 2;
        static final int HURT = 3;
        static final int GO = 4;

        static final int ONE = 0;
        static final int CROSS = 1;
        static final int TOOK = 2;
        static final int LONG = 3;
        static final int KISSES = 4;
        static final int STOP = 5;
        static final int ON_BUS = 6;
        static final int HOUR = 7;
        static final int TICKS = 8;
        static final int MANY = 9;

        static final int STEP_NUMBER = 0;
        static final int STEP_FACT = 1;
        static final int STEP_PART = 2;
        static final int STEP_NOT = 3;
        static final int STEP_PLUS = 4;
        static final int STEP_LESS = 5;
        static final int STEP_TIMES = 6;
        static final int STEP_BELOW = 7;
        static final int STEP_SAME = 8;
        static final int STEP_ABOVE = 9;
        static final int STEP_AND = 10;
        static final int STEP_OR = 11;

        private static final int[] LEAST = {1, 1, 0, -50, 0};
        private static final int[] MOST = {999, 99, 9, 50, 1000};
        private static final int HEAP = 64;

        final int[] facts;
        private final int[] heap;
        private int height;

        Judge() {
            facts = new int[MANY + 1];
            heap = new int[HEAP];
        }

        static int step(int kind, int value) {
            return value * 16 + kind;
        }

        /** The facts of the one himself. */
        void sit(World world, Talk talk, int one) {
            int hour = talk.hour();
            facts[ONE] = one;
            facts[CROSS] = talk.cross[one];
            facts[TOOK] = talk.took[one];
            facts[ON_BUS] = world.doing(one, hour) == World.BUS ? 1 : 0;
            facts[HOUR] = hour;
            facts[TICKS] = talk.ticks[1 - one];
            facts[MANY] = talk.count;
        }

        /** The facts of the message before him. */
        void lay(int lasting, int kisses, int stop) {
            facts[LONG] = lasting;
            facts[KISSES] = kisses;
            facts[STOP] = stop;
        }

        int tells(Sheet law, int word) {
            int told = untold(word);
            for (int i = 0; i < law.lines; i++) {
                int middle = law.cell(i, 2);
                int end = law.cell(i, 3);
                if (law.cell(i, 0) == word && (middle == end || reckon(law, middle, end) != 0)) {
                    told = reckon(law, law.cell(i, 1), middle);
                    break;
                }
            }
            return Math.max(LEAST[word], Math.min(MOST[word], told));
        }

        private int untold(int word) {
            switch (word) {
                case DELAY:
                    return facts[TOOK];
                case LASTS:
                    return facts[LONG] / 2 + 1;
                case KISS:
                    return facts[KISSES];
                case HURT:
                    return 5 * facts[STOP];
                default:
                    return 900;
            }
        }

        private int reckon(Sheet law, int start, int end) {
            height = 0;
            int last = Math.min(end, law.steps);
            for (int i = Math.max(0, start); i < last; i++) {
                int kind = law.code[i] % 16;
                int value = law.code[i] / 16;
                if (kind == STEP_NUMBER && height < HEAP) {
                    heap[height] = value;
                    height++;
                } else if (kind == STEP_FACT && height < HEAP && value >= ONE && value <= MANY) {
                    heap[height] = facts[value];
                    height++;
                } else if (kind == STEP_PART && height > 0 && value > 0) {
                    heap[height - 1] /= value;
                } else if (kind == STEP_NOT && height > 0) {
                    heap[height - 1] = 1 - heap[height - 1];
                } else if (kind >= STEP_PLUS && height > 1) {
                    height--;
                    heap[height - 1] = join(kind, heap[height - 1], heap[height]);
                }
            }
            return height > 0 ? heap[height - 1] : 0;
        }

        private static int join(int kind, int a, int b) {
            switch (kind) {
                case STEP_PLUS:
                    return a + b;
                case STEP_LESS:
                    return a - b;
                case STEP_TIMES:
                    return a * b;
                case STEP_BELOW:
                    return a < b ? 1 : 0;
                case STEP_SAME:
                    return a == b ? 1 : 0;
                case STEP_ABOVE:
                    return a > b ? 1 : 0;
                case STEP_AND:
                    return a & b;
                default:
                    return a | b;
            }
        }
    }

    /** Leads a talk, a true one or one in thought, through what happens to it. */
    static final class Course {
        private static final int SAID = 0;
        private static final int READ = 1;
        private static final int ANSWERED = 2;
        private static final int TAKEN_BACK = 3;
        private static final int RUNG = 4;
        private static final int DAY = 1440;
        private static final int HOUR_FOUR = 240;

        private final World world;
        private final Judge judge;
        private Talk talk;
        private boolean inThought;
        private int paced;
        private int pace;

        Course(World world, Judge judge) {
            this.world = world;
            this.judge = judge;
            talk = world.talk;
            paced = NONE;
        }

        void begin(Talk newTalk, boolean thought) {
            talk = newTalk;
            inThought = thought;
            paced = NONE;
        }

        /** From now on one answers what he reads after so many minutes, whatever the law tells. */
        void keepPace(int one, int minutesLater) {
            paced = one;
            pace = minutesLater;
        }

        /** So many minutes; those in which nothing can happen are not looked at one by one. */
        void go(int n) {
            int end = talk.minute + n;
            for (int i = 0; i < n && talk.minute < end; i++) {
                talk.minute = Math.min(end - 1, quietUntil());
                pass();
            }
        }

        /** The first minute from this one on in which, or at the end of which, something may happen. */
        private int quietUntil() {
            int minute = talk.minute;
            int next = minute + (DAY + HOUR_FOUR - 1 - minute % DAY) % DAY;
            if (talk.open > 0) {
                if (someoneCanRead()) {
                    return minute;
                }
                next = Math.min(next, minute - minute % 60 + 60);
            }
            Sheet sayings = world.texts[World.SAYINGS];
            for (int i = 0; i < sayings.lines; i++) {
                int told = sayings.cell(i, 0);
                next = told >= minute ? Math.min(next, told) : next;
            }
            for (int i = 0; i < talk.count && talk.awaited > 0; i++) {
                next = talk.due[i] >= minute ? Math.min(next, talk.due[i]) : next;
            }
            return next;
        }

        private boolean someoneCanRead() {
            boolean first = world.reads(0, talk.hour());
            boolean second = world.reads(1, talk.hour());
            for (int i = 0; i < talk.count && (first || second); i++) {
                if (talk.isOpen(i) && (talk.from[i] == 1 ? first : second)) {
                    return true;
                }
            }
            return false;
        }

        /** One minute. */
        void pass() {
            followSayings();
            if (talk.open > 0) {
                readMessages();
            }
            if (talk.awaited > 0) {
                answerMessages();
            }
            talk.minute++;
            if (talk.minute % DAY == HOUR_FOUR) {
                talk.cross[0] -= talk.cross[0] / 10;
                talk.cross[1] -= talk.cross[1] / 10;
            }
        }

        int utter(int one, int lasting, int kisses, int stop) {
            int i = talk.add(one, lasting, kisses, stop, NONE);
            if (i != NONE) {
                note(SAID, one, i);
            }
            return i;
        }

        void withdraw(int i) {
            talk.back[i] = 1;
            talk.open--;
            note(TAKEN_BACK, talk.from[i], i);
        }

        /** Of his open messages those that stand in the set, the first one being its lowest bit. */
        void withdrawSet(int one, int set) {
            int left = set;
            for (int i = 0; i < talk.count && left != 0; i++) {
                if (talk.from[i] == one && talk.isOpen(i)) {
                    if ((left & 1) != 0) {
                        withdraw(i);
                    }
                    left >>= 1;
                }
            }
        }

        void ringUp() {
            talk.cross[0] = Math.max(0, talk.cross[0] - 20);
            talk.cross[1] = Math.max(0, talk.cross[1] - 20);
            for (int i = 0; i < talk.count; i++) {
                talk.due[i] = NONE;
            }
            talk.awaited = 0;
            note(RUNG, NONE, NONE);
        }

        private void note(int what, int who, int message) {
            if (inThought || talk.noted >= World.BOOK_LINES) {
                return;
            }
            int at = talk.noted * World.BOOK_WIDTH;
            world.book[at] = talk.minute;
            world.book[at + 1] = what;
            world.book[at + 2] = who;
            world.book[at + 3] = message;
            talk.noted++;
        }

        private void followSayings() {
            Sheet sayings = world.texts[World.SAYINGS];
            for (int i = 0; i < sayings.lines; i++) {
                if (sayings.cell(i, 0) != talk.minute) {
                    continue;
                }
                int one = sayings.cell(i, 1);
                if (sayings.cell(i, 2) == Reader.DEED_SAYS) {
                    utter(one, sayings.cell(i, 3), sayings.cell(i, 4), sayings.cell(i, 5));
                } else {
                    int latest = talk.latestOpenOf(one);
                    if (latest != NONE) {
                        withdraw(latest);
                    }
                }
            }
        }

        private void readMessages() {
            boolean first = world.reads(0, talk.hour());
            boolean second = world.reads(1, talk.hour());
            for (int i = 0; i < talk.count && (first || second); i++) {
                boolean reads = talk.from[i] == 1 ? first : second;
                if (reads && talk.isOpen(i) && talk.sent[i] < talk.minute) {
                    readOne(i);
                }
            }
        }

        private void readOne(int i) {
            int one = 1 - talk.from[i];
            Sheet law = world.texts[World.LAW];
            talk.read[i] = talk.minute;
            talk.open--;
            note(READ, one, i);
            judge.sit(world, talk, one);
            judge.lay(talk.lasting[i], talk.kisses[i], talk.stop[i]);
            int cross = talk.cross[one] + judge.tells(law, Judge.HURT);
            talk.cross[one] = Math.max(0, Math.min(99, cross));
            judge.facts[Judge.CROSS] = talk.cross[one];
            int go = judge.tells(law, Judge.GO);
            if (inThought ? go >= 500 : draw(1000) < go) {
                talk.due[i] = talk.minute + (one == paced ? pace : judge.tells(law, Judge.DELAY));
                talk.awaited++;
            }
        }

        private void answerMessages() {
            // Answers come behind these and are due themselves only later.
            int last = talk.count;
            for (int i = 0; i < last; i++) {
                if (talk.due[i] == talk.minute) {
                    talk.due[i] = NONE;
                    talk.awaited--;
                    answerOne(i);
                }
            }
        }

        private void answerOne(int i) {
            int one = 1 - talk.from[i];
            Sheet law = world.texts[World.LAW];
            judge.sit(world, talk, one);
            judge.lay(talk.lasting[i], talk.kisses[i], talk.stop[i]);
            int lasts = judge.tells(law, Judge.LASTS);
            int kiss = judge.tells(law, Judge.KISS);
            int answer = talk.add(one, lasts, kiss, talk.cross[one] >= 50 ? 1 : 0, i);
            if (answer != NONE) {
                talk.took[1 - one] = Math.min(9999, talk.minute - talk.sent[i]);
                note(ANSWERED, one, answer);
            }
        }

        private int draw(int m) {
            talk.state = talk.state * 1664525 + 1013904223;
            return m > 0 ? (talk.state >>> 8) % m : 0;
        }
    }

    /** What can be seen in the messages as they stand. */
    static final class Glance {
        final int[] dear;
        int gathered;
        private final int[] falls;
        private final int[] lengths;
        private final int[] owners;

        Glance() {
            dear = new int[Talk.MOST];
            falls = new int[10];
            lengths = new int[Talk.MOST];
            owners = new int[Talk.MOST];
        }

        int worthiest(Talk talk, int one) {
            int best = NONE;
            int most = NONE;
            for (int i = 0; i < talk.count; i++) {
                int worth = talk.lasting[i] + 10 * talk.kisses[i];
                if (worth >= most && talk.waitsFor(one, i)) {
                    most = worth;
                    best = i;
                }
            }
            return best;
        }

        int waiting(Talk talk, int one) {
            int many = 0;
            for (int i = 0; i < talk.count; i++) {
                many += talk.waitsFor(one, i) ? 1 : 0;
            }
            return many;
        }

        int pauseSum(Talk talk, int one) {
            int sum = 0;
            for (int i = 0; i < talk.count; i++) {
                sum += talk.from[i] == one && talk.isAnswer(i) ? talk.pauseOf(i) : 0;
            }
            return sum;
        }

        int greatestPause(Talk talk, int one) {
            int greatest = 0;
            for (int i = 0; i < talk.count; i++) {
                if (talk.from[i] == one && talk.isAnswer(i)) {
                    greatest = Math.max(greatest, talk.pauseOf(i));
                }
            }
            return greatest;
        }

        int longestFall(Talk talk, int one) {
            for (int k = 0; k < falls.length; k++) {
                falls[k] = 0;
            }
            int longest = 0;
            for (int i = 0; i < talk.count; i++) {
                int kisses = talk.kisses[i];
                if (talk.from[i] == one && talk.back[i] == 0 && kisses >= 0 && kisses < falls.length) {
                    int above = 0;
                    for (int k = kisses + 1; k < falls.length; k++) {
                        above = Math.max(above, falls[k]);
                    }
                    falls[kisses] = Math.max(falls[kisses], above + 1);
                    longest = Math.max(longest, above + 1);
                }
            }
            return longest;
        }

        int risesLessFalls(Talk talk, int one) {
            int sum = 0;
            int ahead = NONE;
            for (int i = 0; i < talk.count; i++) {
                if (talk.from[i] == one && talk.back[i] == 0) {
                    sum += ahead == NONE ? 0 : Integer.compare(talk.kisses[i], talk.kisses[ahead]);
                    ahead = i;
                }
            }
            return sum;
        }

        /** By Sprague and Grundy: a heap from which 1 to k are taken counts modulo k + 1; 0 is lost. */
        int gameWorth(Talk talk) {
            int worth = 0;
            for (int i = 0; i < talk.count; i++) {
                if (talk.isOpen(i)) {
                    worth ^= heapWorth(talk.lasting[i], talk.kisses[i]);
                }
            }
            return worth;
        }

        /** How many to take from heap i so that the other one is lost, or none. */
        int winningTake(Talk talk, int i, int worth) {
            int others = worth ^ heapWorth(talk.lasting[i], talk.kisses[i]);
            int most = Math.min(talk.kisses[i] + 1, talk.lasting[i]);
            for (int taken = 1; taken <= most; taken++) {
                if (heapWorth(talk.lasting[i] - taken, talk.kisses[i]) == others) {
                    return taken;
                }
            }
            return NONE;
        }

        private static int heapWorth(int left, int kisses) {
            return kisses >= 0 ? left % (kisses + 2) : 0;
        }

        /** The first message of the dearest row; what each row is worth stands in dear by its first message. */
        int dearest(Talk talk) {
            for (int i = 0; i < talk.count; i++) {
                dear[i] = 0;
            }
            int best = NONE;
            // An answer stands behind what it answers, so from the last one on its row is ready.
            for (int i = talk.count - 1; i >= 0; i--) {
                if (talk.back[i] == 0) {
                    dear[i] += talk.kisses[i];
                    int to = talk.to[i];
                    if (to >= 0 && to < i) {
                        dear[to] = Math.max(dear[to], dear[i]);
                    }
                    best = best == NONE || dear[i] >= dear[best] ? i : best;
                }
            }
            return best;
        }

        int crossings(Talk talk) {
            int many = 0;
            for (int i = 0; i < talk.count; i++) {
                for (int j = i + 1; j < talk.count; j++) {
                    // Messages stand in the order in which they were sent.
                    boolean couple = talk.from[i] != talk.from[j] && talk.back[i] == 0 && talk.back[j] == 0;
                    boolean readAhead = talk.read[i] != NONE && talk.read[i] < talk.sent[j];
                    many += couple && !readAhead ? 1 : 0;
                }
            }
            return many;
        }

        /** The pauses of all answers by size, with who made them. */
        void gatherPauses(Talk talk) {
            gathered = 0;
            for (int i = 0; i < talk.count; i++) {
                if (talk.isAnswer(i)) {
                    insertPause(talk.pauseOf(i), talk.from[i]);
                }
            }
        }

        private void insertPause(int pause, int owner) {
            if (gathered >= Talk.MOST) {
                return;
            }
            int at = gathered;
            while (at > 0 && lengths[at - 1] > pause) {
                lengths[at] = lengths[at - 1];
                owners[at] = owners[at - 1];
                at--;
            }
            lengths[at] = pause;
            owners[at] = owner;
            gathered++;
        }

        /** The least number that parts the gathered pauses best. */
        int bestCut() {
            int best = 1;
            int least = costOfCut(1);
            // Parts change only behind a pause, so no other number needs a look.
            for (int i = 0; i < gathered; i++) {
                int number = lengths[i] + 1;
                if (number >= 1 && number <= 9999 && costOfCut(number) < least) {
                    least = costOfCut(number);
                    best = number;
                }
            }
            return best;
        }

        private int costOfCut(int number) {
            int below = 0;
            while (below < gathered && lengths[below] < number) {
                below++;
            }
            return spread(0, below) + spread(below, gathered);
        }

        private int spread(int start, int end) {
            int sum = 0;
            int middle = start + (end - start - 1) / 2;
            for (int i = start; i < end; i++) {
                sum += Math.abs(lengths[i] - lengths[middle]);
            }
            return sum;
        }

        int ofFirstBelow(int number) {
            int many = 0;
            for (int i = 0; i < gathered; i++) {
                many += lengths[i] < number && owners[i] == 0 ? 1 : 0;
            }
            return many;
        }
    }

    /** The tape, and the reading of it as one of the texts. */
    static final class Reader {
        static final int MOST = 400;
        static final int DEED_SAYS = 0;
        static final int DEED_DELETES = 1;

        private static final String LAW_WORDS =
            "delay lasts kiss hurt go when or and not one cross took long kisses stop bus hour ticks many";
        private static final String HOURS_WORDS = "one from for free bus busy sleep";
        private static final String SAYINGS_WORDS = "at one says kisses stop deletes";
        private static final String HABITS_WORDS = "sign easy cross";

        private static final int WHEN = 5;
        private static final int OR = 6;
        private static final int AND = 7;
        private static final int NOT = 8;
        private static final int FIRST_FACT = 9;
        private static final int FROM = 1;
        private static final int FOR = 2;
        private static final int FREE = 3;
        private static final int SLEEP = 6;
        private static final int ONE = 1;
        private static final int SAYS = 2;
        private static final int KISSES = 3;
        private static final int STOP = 4;
        private static final int DELETES = 5;
        private static final int EASY = 1;
        private static final int CROSS = 2;

        private static final int KIND_END = 0;
        private static final int KIND_WORD = 1;
        private static final int KIND_NUMBER = 2;
        private static final int KIND_SIGN = 3;
        private static final int KIND_WRONG = 4;

        private static final int CANT_STAND = 1;
        private static final int BEYOND = 2;
        private static final int TOO_MANY = 3;
        private static final int MOST_OPEN = 8;

        final Sheet sheet;
        int length;
        int fault;
        int faultPlace;
        private final int[] tape;
        private final int[] kinds;
        private final int[] values;
        private final int[] places;
        private int tokens;
        private int at;

        Reader() {
            sheet = new Sheet(96, MOST);
            faultPlace = NONE;
            tape = new int[MOST];
            kinds = new int[MOST + 1];
            values = new int[MOST + 1];
            places = new int[MOST + 1];
        }

        boolean hasRoom(int bytes) {
            return length + bytes <= MOST;
        }

        void append(int number) {
            for (int shift = 24; shift >= 0 && length < MOST; shift -= 8) {
                tape[length] = (number >> shift) & 255;
                length++;
            }
        }

        /** Cuts the tape, which is empty then, into tokens by the words of text k. */
        void cutTokens(int k) {
            String words = wordsOf(k);
            int end = length;
            length = 0;
            fault = 0;
            faultPlace = NONE;
            tokens = 0;
            at = 0;
            int i = 0;
            for (int turn = 0; turn < MOST && i < end; turn++) {
                i = tape[i] == ' ' || tape[i] == '\n' ? i + 1 : cutOne(words, i, end);
            }
            addToken(KIND_END, 0, end);
        }

        private static String wordsOf(int k) {
            switch (k) {
                case World.LAW:
                    return LAW_WORDS;
                case World.HOURS:
                    return HOURS_WORDS;
                case World.SAYINGS:
                    return SAYINGS_WORDS;
                default:
                    return HABITS_WORDS;
            }
        }

        private int cutOne(String words, int start, int end) {
            int i = start;
            if (isLetter(tape[i])) {
                while (i < end && isLetter(tape[i])) {
                    i++;
                }
                int word = findWord(words, start, i);
                addToken(word == NONE ? KIND_WRONG : KIND_WORD, word, start);
                return i;
            }
            if (isDigit(tape[i])) {
                int value = 0;
                while (i < end && isDigit(tape[i])) {
                    // Longer ones are no numbers anyway, so the value need not grow on.
                    value = i - start < 4 ? value * 10 + tape[i] - '0' : value;
                    i++;
                }
                addToken(i - start > 4 ? KIND_WRONG : KIND_NUMBER, value, start);
                return i;
            }
            addToken(KIND_SIGN, tape[i], start);
            return i + 1;
        }

        private static boolean isLetter(int c) {
            return (c >= 'a' && c <= 'z') || (c >= 'A' && c <= 'Z');
        }

        private static boolean isDigit(int c) {
            return c >= '0' && c <= '9';
        }

        /** Which of the words stands on the tape from start to end, or none. */
        private int findWord(String words, int start, int end) {
            int word = 0;
            int i = start;
            boolean same = true;
            for (int c = 0; c < words.length(); c++) {
                if (words.charAt(c) == ' ') {
                    if (same && i == end) {
                        return word;
                    }
                    word++;
                    i = start;
                    same = true;
                } else {
                    same = same && i < end && tape[i] == words.charAt(c);
                    i++;
                }
            }
            return same && i == end ? word : NONE;
        }

        private void addToken(int kind, int value, int place) {
            if (tokens < kinds.length) {
                kinds[tokens] = kind;
                values[tokens] = value;
                places[tokens] = place;
                tokens++;
            }
        }

        /** Reads the tokens as text k into the sheet; false with a fault. */
        boolean parse(int k) {
            sheet.clear(widthOf(k));
            int lastStart = k == World.LAW ? Judge.GO : 0;
            int most = k == World.HABITS ? 8 : 16;
            for (int i = 0; i <= MOST && kinds[at] != KIND_END; i++) {
                if (kinds[at] != KIND_WORD || values[at] > lastStart) {
                    return refuse(CANT_STAND);
                }
                if (sheet.lines >= most) {
                    return refuse(TOO_MANY);
                }
                boolean stands = k == World.LAW ? parseLaw() : k == World.HOURS ? parseHours()
                    : k == World.SAYINGS ? parseSaying() : parseHabit();
                if (!stands || !takeSign(';')) {
                    return false;
                }
                sheet.lines++;
            }
            return true;
        }

        private static int widthOf(int k) {
            if (k == World.SAYINGS) {
                return 6;
            }
            return k == World.HABITS ? 2 : 4;
        }

        private boolean parseLaw() {
            sheet.put(values[at]);
            advance();
            sheet.put(sheet.steps);
            if (!parseSum()) {
                return false;
            }
            sheet.put(sheet.steps);
            if (isWord(WHEN)) {
                advance();
                if (!parseCondition(0)) {
                    return false;
                }
            }
            sheet.put(sheet.steps);
            return true;
        }

        private boolean parseHours() {
            advance();
            return takeNumber(0, 1) && takeWord(FROM) && takeNumber(0, 23)
                && takeWord(FOR) && takeNumber(1, 24) && takeDoing();
        }

        private boolean takeDoing() {
            if (kinds[at] != KIND_WORD || values[at] < FREE || values[at] > SLEEP) {
                return refuse(CANT_STAND);
            }
            sheet.put(values[at] - FREE);
            advance();
            return true;
        }

        private boolean parseSaying() {
            advance();
            if (!takeNumber(0, 9999) || !takeWord(ONE) || !takeNumber(0, 1)) {
                return false;
            }
            if (isWord(DELETES)) {
                advance();
                sheet.put(DEED_DELETES);
                sheet.put(0);
                sheet.put(0);
                sheet.put(0);
                return true;
            }
            sheet.put(DEED_SAYS);
            if (!takeWord(SAYS) || !takeNumber(1, 99) || !takeWord(KISSES) || !takeNumber(0, 9)) {
                return false;
            }
            boolean stops = isWord(STOP);
            if (stops) {
                advance();
            }
            sheet.put(stops ? 1 : 0);
            return true;
        }

        private boolean parseHabit() {
            advance();
            return takeWord(EASY) && takeNumber(1, 999) && takeWord(CROSS) && takeNumber(1, 999);
        }

        /** B of the document: what "and" joins is ready before what "or" joins. */
        private boolean parseCondition(int open) {
            boolean and = false;
            boolean or = false;
            for (int i = 0; i <= MOST; i++) {
                if (!parseSingle(open)) {
                    return false;
                }
                if (and) {
                    sheet.emit(Judge.STEP_AND);
                }
                and = isWord(AND);
                if (!and) {
                    if (or) {
                        sheet.emit(Judge.STEP_OR);
                    }
                    or = isWord(OR);
                }
                if (!and && !or) {
                    return true;
                }
                advance();
            }
            return refuse(CANT_STAND);
        }

        /** C of the document; open tells how many "(" and "not" stand open around it. */
        private boolean parseSingle(int open) {
            boolean not = isWord(NOT);
            if (not || isSign('(')) {
                if (open >= MOST_OPEN) {
                    return refuse(TOO_MANY);
                }
                advance();
                if (!not) {
                    return parseCondition(open + 1) && takeSign(')');
                }
                if (!parseSingle(open + 1)) {
                    return false;
                }
                sheet.emit(Judge.STEP_NOT);
                return true;
            }
            if (!parseSum()) {
                return false;
            }
            int comparison = comparisonHere();
            if (comparison == NONE) {
                return refuse(CANT_STAND);
            }
            advance();
            if (!parseSum()) {
                return false;
            }
            sheet.emit(comparison);
            return true;
        }

        private int comparisonHere() {
            if (isSign('<')) {
                return Judge.STEP_BELOW;
            }
            if (isSign('=')) {
                return Judge.STEP_SAME;
            }
            return isSign('>') ? Judge.STEP_ABOVE : NONE;
        }

        /** E of the document: products are ready before the sign that stood ahead of them counts. */
        private boolean parseSum() {
            int waiting = NONE;
            boolean times = false;
            for (int i = 0; i <= MOST; i++) {
                if (!takeOperand()) {
                    return false;
                }
                if (times) {
                    sheet.emit(Judge.STEP_TIMES);
                }
                if (!takeParts()) {
                    return false;
                }
                times = isSign('*');
                if (!times) {
                    if (waiting != NONE) {
                        sheet.emit(waiting);
                    }
                    waiting = isSign('+') ? Judge.STEP_PLUS : isSign('-') ? Judge.STEP_LESS : NONE;
                }
                if (!times && waiting == NONE) {
                    return true;
                }
                advance();
            }
            return refuse(CANT_STAND);
        }

        private boolean takeOperand() {
            if (kinds[at] == KIND_NUMBER) {
                sheet.emit(Judge.step(Judge.STEP_NUMBER, values[at]));
            } else if (kinds[at] == KIND_WORD && values[at] >= FIRST_FACT) {
                sheet.emit(Judge.step(Judge.STEP_FACT, values[at] - FIRST_FACT));
            } else {
                return refuse(CANT_STAND);
            }
            advance();
            return true;
        }

        /** Any "/ NUMBER" behind an operand: they count at once, from the left. */
        private boolean takeParts() {
            for (int i = 0; i <= MOST && isSign('/'); i++) {
                advance();
                if (kinds[at] != KIND_NUMBER) {
                    return refuse(CANT_STAND);
                }
                if (values[at] == 0) {
                    return refuse(BEYOND);
                }
                sheet.emit(Judge.step(Judge.STEP_PART, values[at]));
                advance();
            }
            return true;
        }

        private void advance() {
            if (at < tokens - 1) {
                at++;
            }
        }

        private boolean isWord(int word) {
            return kinds[at] == KIND_WORD && values[at] == word;
        }

        private boolean isSign(int sign) {
            return kinds[at] == KIND_SIGN && values[at] == sign;
        }

        private boolean takeWord(int word) {
            if (!isWord(word)) {
                return refuse(CANT_STAND);
            }
            advance();
            return true;
        }

        private boolean takeSign(int sign) {
            if (!isSign(sign)) {
                return refuse(CANT_STAND);
            }
            advance();
            return true;
        }

        private boolean takeNumber(int least, int most) {
            if (kinds[at] != KIND_NUMBER) {
                return refuse(CANT_STAND);
            }
            if (values[at] < least || values[at] > most) {
                return refuse(BEYOND);
            }
            sheet.put(values[at]);
            advance();
            return true;
        }

        private boolean refuse(int what) {
            fault = what;
            faultPlace = places[at];
            return false;
        }
    }
}
