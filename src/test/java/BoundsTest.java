import java.util.LinkedHashMap;
import java.util.List;
import java.util.Map;
import java.util.function.Consumer;

/**
 * Promise by promise what it says of a call that can't be: each argument just beyond its bounds, far beyond and
 * just within; what is empty, what is full; and that a refused call leaves all as it was.
 */
public final class BoundsTest extends Due {
    public static void main(String[] args) {
        silence();
        stateTakesAny();
        setBounds();
        sayBounds();
        takeBackBounds();
        ringBounds();
        minutesBounds();
        minutesUpToTheLast();
        feedBounds();
        endBounds();
        textBounds();
        faultBounds();
        ofBounds();
        messageBounds();
        asksBounds();
        bookBounds();
        goesBounds();
        copiesBounds();
        sureBounds();
        needsBounds();
        waitsBounds();
        whichBounds();
        driftBounds();
        pausesBounds();
        timeBounds();
        fitsBounds();
        gameBounds();
        tableBounds();
        deletesBounds();
        threadBounds();
        awakeBounds();
        mirrorsBounds();
        easeBounds();
        splitBounds();
        undoBounds();
        imageBounds();
        lookBounds();
        askedOfSixty();
        askedOfSixtyOfBoth();
        refusedChangesNothing();
        questionsChangeNothing();
        finish();
    }

    /** In which each question has an answer: two messages that are answered, three that are open. */
    private static ThreeDots talk() {
        ThreeDots x = with(0, "go 1000;delay 2;");
        tell(x, 3, "sign easy 100 cross 300;sign easy 500 cross 400;sign easy 200 cross 900;");
        x.time(70);
        x.say(0, 5, 1, false);
        x.say(1, 6, 2, true);
        x.minutes(4);
        x.say(0, 1, 0, false);
        due("a talk of five", x.look(1), 5);
        return x;
    }

    // ---- promise 1: "Silence." ----

    private static void silence() {
        ThreeDots x = new ThreeDots();
        for (int w = 0; w <= 10; w++) {
            due("look(" + w + ")", x.look(w), 0);
        }
        for (int one = 0; one < 2; one++) {
            due("CROSS 10 at first", x.of(one, 0), 10);
            due("TOOK 0 at first", x.of(one, 1), 0);
            due("TICKS 1 at first", x.of(one, 2), 1);
            due("no HOURS: free", x.of(one, 3), 0);
            due("which", x.which(one), NONE);
            due("drift", x.drift(one, 0) * 10 + x.drift(one, 1), 0);
            due("pauses", x.pauses(one, 0) + x.pauses(one, 1) + x.pauses(one, 2), 0);
            due("deletes: that CROSS", x.deletes(one, 300, 0), 9);
            due("deletes: the empty set", x.deletes(one, 300, 1), 0);
            due("ease: the least", x.ease(one, 239, 0) * 100 + x.ease(one, 239, 1), 120);
        }
        due("no message", x.message(0, 0), -2);
        due("no message to ask of", x.asks(0, 0), -100);
        due("no line", x.book(0, 0), -2);
        due("goes: none", x.goes(999, 0), 0);
        due("goes: nobody's", x.goes(999, 1), NONE);
        due("sure", x.sure(7, 0, 0), 7000);
        due("needs", x.needs(500, 0), NONE);
        due("waits", x.waits(500), NONE);
        due("no TIMES: each couple fits", x.fits(0), 1785);
        due("no heap: who begins loses", x.game(0) + x.game(1), 2 * NONE);
        due("costs of 0: all rest", x.rests(), 15);
        due("thread", x.thread(0) + x.thread(1), 2 * NONE);
        due("crossed", x.crossed(), 0);
        due("awake", x.awake(48, 0) * 100 + x.awake(48, 2), 4848);
        due("split", x.split(0) + x.split(1), 2 * NONE);
        due("nothing to undo", x.undo(), false);
        due("no image", x.image(false), false);
        due("no tape", x.end(1), false);
        due("no fault, no place", x.fault(0) * 10 + x.fault(1), NONE);
    }

    // ---- promise 2 ----

    private static void stateTakesAny() {
        ThreeDots x = new ThreeDots();
        int was = 0;
        for (int v : new int[] {DEEP, FAR, -1, 0, 1}) {
            due("what STATE was", x.state(v), was);
            due("look: STATE as it is", x.look(4), v);
            was = v;
        }
    }

    // ---- promise 3 ----

    private static void setBounds() {
        bounds("set MINUTE", v -> bit(new ThreeDots().set(0, 0, v)), 0, 9999, 0);
        bounds("set CROSS", v -> bit(new ThreeDots().set(1, 0, v)), 0, 99, 0);
        bounds("set TOOK", v -> bit(new ThreeDots().set(2, 1, v)), 0, 9999, 0);
        bounds("set TICKS", v -> bit(new ThreeDots().set(3, 1, v)), 0, 1, 0);
        bounds("set what", v -> bit(new ThreeDots().set(v, 0, 0)), 0, 3, 0);
        for (int what = 1; what <= 3; what++) {
            int w = what;
            bounds("set " + w + " of who", v -> bit(new ThreeDots().set(w, v, 1)), 0, 1, 0);
        }
        for (int who : new int[] {DEEP, -1, 2, FAR}) {
            due("MINUTE: who not asked", new ThreeDots().set(0, who, 3), true);
        }
        // All MESSAGES go, also those that are read, due or back: nothing of them comes later.
        ThreeDots x = with(0, "go 1000;delay 9;");
        x.say(0, 5, 0, false);
        x.minutes(2);
        x.say(1, 5, 0, false);
        x.set(0, 0, 0);
        due("all MESSAGES go", x.look(1), 0);
        due("nothing is answered", x.minutes(300), 0);
        due("nothing is read", x.look(3), 3);
        x.set(0, 0, 0);
        x.say(1, 5, 0, false);
        due("one said anew is read and answered", x.minutes(11), 1);
        due("by 0", x.message(1, 0) * 10 + x.message(1, 6), 0);
    }

    // ---- promise 4 ----

    private static void sayBounds() {
        bounds("say by one", v -> new ThreeDots().say(v, 5, 0, false), 0, 1, NONE);
        bounds("say so long", v -> new ThreeDots().say(0, v, 0, false), 1, 99, NONE);
        bounds("say so many kisses", v -> new ThreeDots().say(1, 5, v, true), 0, 9, NONE);
        ThreeDots x = new ThreeDots();
        for (int i = 0; i < 60; i++) {
            due("its number", x.say(i % 2, 5, 0, false), i);
        }
        List<Integer> full = seen(x);
        due("no room", x.say(0, 5, 0, false), NONE);
        same("nothing came", seen(x), full);
        due("what is back still has its place", x.takeBack(59) && x.say(0, 5, 0, false) == NONE, true);
        due("undone, there is room", x.undo() && x.undo() && x.say(0, 7, 0, false) == 59, true);
        due("it is the new one", x.message(59, 3), 7);
    }

    // ---- promise 5 ----

    private static void takeBackBounds() {
        bounds("take back", v -> {
            ThreeDots x = new ThreeDots();
            x.say(0, 5, 0, false);
            x.say(1, 5, 0, false);
            return bit(x.takeBack(v));
        }, 0, 1, 0);
        ThreeDots x = new ThreeDots();
        due("none there", x.takeBack(0), false);
        x.say(0, 5, 0, false);
        x.say(0, 5, 0, false);
        x.minutes(1);
        due("not read yet", x.takeBack(0), true);
        due("back already", x.takeBack(0), false);
        x.minutes(1);
        due("read", x.takeBack(1), false);
        due("read stays not back", x.message(1, 7), 0);
    }

    // ---- promise 6 ----

    private static void ringBounds() {
        int[][] cross = {{0, 0}, {19, 0}, {20, 0}, {21, 1}, {99, 79}};
        for (int[] c : cross) {
            ThreeDots x = new ThreeDots();
            x.set(1, 0, c[0]);
            x.set(1, 1, 30);
            due("ring at " + c[0], x.ring(), c[1] + 10);
            due("CROSS of 0", x.of(0, 0), c[1]);
            due("CROSS of 1", x.of(1, 0), 10);
        }
        ThreeDots x = with(0, "go 1000;delay 9;");
        for (int i = 0; i < 6; i++) {
            x.say(i % 2, 5, 0, false);
        }
        x.minutes(3);
        due("due", x.message(0, 8) * 100 + x.message(5, 8), 1010);
        x.ring();
        for (int i = 0; i < 6; i++) {
            due("all DUE are none", x.message(i, 8), NONE);
        }
        due("none is answered", x.minutes(20), 0);
        due("rung with nothing due", x.ring(), 0);
        x.say(1, 5, 0, false);
        due("what comes later is due", x.minutes(2) * 100 + x.message(6, 8), 33);
        due("and answered", x.minutes(9) * 10 + x.message(7, 6), 16);
    }

    // ---- promise 7 ----

    private static void minutesBounds() {
        bounds("minutes", v -> new ThreeDots().minutes(v), 1, 300, NONE);
        ThreeDots x = new ThreeDots();
        due("one", x.minutes(1) * 10 + x.look(0), 1);
        due("three hundred more", x.minutes(300) * 1000 + x.look(0), 301);
    }

    private static void minutesUpToTheLast() {
        ThreeDots x = with(0, "go 0;");
        x.set(0, 0, 9999);
        for (int i = 0; i < 299; i++) {
            x.minutes(300);
        }
        x.minutes(1);
        due("so far", x.look(0), 99700);
        x.say(0, 5, 0, false);
        due("MINUTE would be 100000", x.minutes(300), NONE);
        due("nothing is done: no minute", x.look(0), 99700);
        due("nothing is done: not read", x.message(0, 2), NONE);
        due("nothing is done: one line", x.look(3), 1);
        due("up to 99999", x.minutes(299), 0);
        due("the last", x.look(0), 99999);
        due("its hour", x.look(2), 10);
        due("read", x.message(0, 2), 99701);
        due("none more", x.minutes(1), NONE);
        due("the last still", x.look(0), 99999);
        due("undone", x.undo() && x.undo(), true);
        due("three are one too many", x.minutes(3), NONE);
        due("two are not", x.minutes(2), 0);
        due("the last again", x.look(0), 99999);
        due("in thought it goes on", x.goes(999, 0), 1);
        tell(x, 0, "go 1000;delay 1;hurt 0;");
        x.say(1, 5, 0, false);
        due("beyond the last nothing ahead of its time", x.goes(2, 0), 2);
        due("beyond the last it is answered", x.goes(3, 0), 3);
    }

    // ---- promises 8 and 9 ----

    private static void feedBounds() {
        ThreeDots x = new ThreeDots();
        for (int i = 1; i <= 20; i++) {
            due("how many it has", x.feed(0x676f2031, 0x3b202020, 0x20202020, 0x20202020, 0x20202020), 20 * i);
        }
        due("more than 400", x.feed(0, 0, 0, 0, 0), NONE);
        due("nothing came", x.end(401), false);
        due("end", x.end(381), true);
        due("401 would be more", x.feed(0, 0, 0, 0, 0), NONE);
        due("still 381", x.end(382) ? 1 : x.end(381) ? 2 : 3, 2);
        due("end", x.end(320), true);
        due("the sixteen lines that are left", x.text(0), 16);
        // Of each number the highest first: a b c d and so on to t.
        due("bytes", x.feed(0x6b697373, 0x206b6973, 0x7365732b, 0x312a322f, 0x333b2020), 20);
        due("kiss kisses+1*2/3;", x.text(0), 1);
        x.say(0, 5, 4, false);
        due("that law", x.asks(0, 2), 4);
        due("a byte of 255 in each place", byteFault(0xff202020, 0) + byteFault(0x20ff2020, 1)
            + byteFault(0x2020ff20, 2) + byteFault(0x202020ff, 3), 0);
    }

    private static int byteFault(int number, int place) {
        int wrong = 0;
        for (int k = 0; k < 5; k++) {
            ThreeDots x = new ThreeDots();
            int[] n = {0x20202020, 0x20202020, 0x20202020, 0x20202020, 0x20202020};
            n[k] = number;
            x.feed(n[0], n[1], n[2], n[3], n[4]);
            wrong += x.text(0) == NONE && x.fault(0) == 1 && x.fault(1) == 4 * k + place ? 0 : 1;
        }
        return wrong;
    }

    private static void endBounds() {
        bounds("end", v -> {
            ThreeDots x = new ThreeDots();
            x.feed(0, 0, 0, 0, 0);
            x.feed(0, 0, 0, 0, 0);
            return bit(x.end(v));
        }, 0, 40, 0);
        ThreeDots x = new ThreeDots();
        due("empty: 0", x.end(0), true);
        due("empty: 1", x.end(1), false);
        x.feed(0x676f2031, 0x3b676f20, 0x323b4141, 0x41414141, 0x41414141);
        due("too many", x.end(21), false);
        due("below 0", x.end(-1), false);
        due("changing nothing", x.feed(0x20202020, 0, 0, 0, 0), 40);
        due("the first ten alone", x.end(10), true);
        due("not more again", x.end(11), false);
        due("go 1;go 2;", x.text(0), 2);
    }

    // ---- promises 10 and 11 ----

    private static void textBounds() {
        bounds("text", v -> new ThreeDots().text(v), 0, 3, NONE);
        for (int k : new int[] {DEEP, -1, 4, FAR}) {
            ThreeDots x = with(0, "go 1;");
            tell(x, 0, "go");
            due("a fault", x.fault(0) * 10 + x.fault(1), 12);
            feedAll(x, "go 2;");
            due("no such one", x.text(k), NONE);
            due("fault() tells 0", x.fault(0), 0);
            due("no place", x.fault(1), NONE);
            due("the TAPE is empty then", x.end(1), false);
            due("THE LAW as it was", x.look(5), 1);
        }
        String[] first = {"go 7;go 8;", "one 0 from 0 for 24 bus;", "at 3 one 1 deletes;at 4 one 1 deletes;",
            "sign easy 1 cross 2;"};
        int[] lines = {2, 1, 2, 1};
        for (int k = 0; k < 4; k++) {
            ThreeDots x = new ThreeDots();
            due("how many lines", tell(x, k, first[k]), lines[k]);
            due("so many", x.look(5 + k), lines[k]);
            due("the TAPE is empty then", x.end(1), false);
            due("a fault behind whole lines", tell(x, k, first[k] + first[k] + first[k] + "?"), NONE);
            due("its place", x.fault(1), 3 * first[k].length());
            due("it stays as it was", x.look(5 + k), lines[k]);
            due("the TAPE is empty then, too", x.end(1), false);
            due("empty: no line", x.text(k), 0);
            due("no line", x.look(5 + k), 0);
            due("no fault any more", x.fault(0) * 10 + x.fault(1), NONE);
        }
    }

    private static void faultBounds() {
        ThreeDots x = new ThreeDots();
        tell(x, 0, "go 1/0;");
        bounds("fault", x::fault, 0, 1, NONE);
        due("the fault", x.fault(0), 2);
        due("its place", x.fault(1), 5);
        due("of the latest", tell(x, 3, "") * 100 + x.fault(0) * 10 + x.fault(1), NONE);
    }

    // ---- promises 12 to 15 ----

    private static void ofBounds() {
        ThreeDots x = talk();
        bounds("of one", v -> x.of(v, 0), 0, 1, NONE);
        bounds("of what", v -> x.of(1, v), 0, 3, NONE);
        bounds("of one what he is", v -> x.of(v, 3), 0, 1, NONE);
    }

    private static void messageBounds() {
        ThreeDots x = talk();
        bounds("message", v -> x.message(v, 3), 0, 4, -2);
        bounds("message what", v -> x.message(2, v), 0, 8, -2);
        due("READ: none", x.message(2, 2), NONE);
        due("TO: none", x.message(0, 6), NONE);
        due("DUE: none", x.message(2, 8), NONE);
        due("DUE: answered, too", x.message(0, 8), NONE);
        due("no such one, no such what", x.message(5, 9), -2);
    }

    private static void asksBounds() {
        ThreeDots x = talk();
        bounds("asks", v -> x.asks(v, 0), 0, 4, -100);
        bounds("asks what", v -> x.asks(4, v), 0, 4, -100);
        due("no such one, no such what", x.asks(5, 5), -100);
    }

    private static void bookBounds() {
        ThreeDots x = talk();
        due("two said, read, answered each, and one said", x.look(3), 7);
        bounds("book", v -> x.book(v, 0), 0, 6, -2);
        bounds("book what", v -> x.book(6, v), 0, 3, -2);
        x.ring();
        due("4: who is NONE", x.book(7, 2), NONE);
        due("4: which is NONE", x.book(7, 3), NONE);
    }

    // ---- promises 16 to 20 ----

    private static void goesBounds() {
        ThreeDots x = talk();
        bounds("goes", v -> x.goes(v, 0), 1, 999, -2);
        bounds("goes what", v -> x.goes(1, v), 0, 3, -2);
        due("nobody's is NONE", new ThreeDots().goes(1, 1), NONE);
    }

    private static void copiesBounds() {
        ThreeDots x = talk();
        for (int what = 0; what <= 2; what++) {
            int w = what;
            bounds("copies from t", v -> x.copies(v, 5, w), 0, 999, NONE);
            bounds("copies of l", v -> x.copies(5, v, w), 1, 99, NONE);
        }
        bounds("copies what", v -> x.copies(5, 5, v), 0, 2, NONE);
        tell(x, 0, "delay took+1;");
        due("not within 60", x.copies(0, 5, 0), NONE);
        due("not within 60", x.copies(0, 5, 1), NONE);
        due("but the greatest is", x.copies(0, 5, 2), 60);
        bounds("copies what, if none comes round", v -> x.copies(5, 5, v) == NONE ? 0 : 1, 2, 2, 0);
    }

    private static void sureBounds() {
        ThreeDots x = talk();
        bounds("sure from p", v -> x.sure(v, 1, 2), 0, 1000, NONE);
        bounds("sure by what shows", v -> x.sure(500, v, 0), 0, 7, NONE);
        bounds("sure by what does not", v -> x.sure(500, 0, v), 0, 7, NONE);
        for (int sign = 0; sign < 3; sign++) {
            due("none in both", x.sure(500, 1 << sign, 1 << sign), NONE);
            due("each in one", x.sure(500, 1 << sign, 7 - (1 << sign)) >= 0, true);
        }
        for (int bit = 3; bit < 32; bit++) {
            due("no such SIGN shows", x.sure(500, 1 << bit, 0), NONE);
            due("no such SIGN does not", x.sure(500, 0, 1 << bit), NONE);
        }
        ThreeDots eight = with(3, "sign easy 5 cross 6;".repeat(8));
        bounds("eight show", v -> eight.sure(500, v, 0), 0, 255, NONE);
        ThreeDots none = new ThreeDots();
        bounds("without SIGNS", v -> none.sure(v, 0, 0), 0, 1000, NONE);
        bounds("without SIGNS none shows", v -> none.sure(500, v, 0), 0, 0, NONE);
    }

    private static void needsBounds() {
        ThreeDots x = talk();
        bounds("needs of a sign", v -> x.needs(500, v), 0, 2, NONE);
        bounds("needs of a sign, if none is needed", v -> x.needs(1000, v), 0, 2, NONE);
        for (int p : new int[] {DEEP, -1, 0, 1001, FAR}) {
            due("p " + p, x.needs(p, 0), NONE);
        }
        due("p 1000", x.needs(1000, 0), 0);
        // By threes: 1 : 999, 3, 9, 27, 81, 243, 729, 2187.
        due("p 1", x.needs(1, 0), 7);
        due("without SIGNS", new ThreeDots().needs(1000, 0), NONE);
    }

    private static void waitsBounds() {
        ThreeDots x = talk();
        bounds("waits by p", x::waits, 0, 1000, NONE);
        ThreeDots none = new ThreeDots();
        due("without SIGNS", none.waits(0), NONE);
        due("one alone", with(3, "sign easy 5 cross 5;").waits(500), 0);
    }

    // ---- promises 21 to 25 ----

    private static void whichBounds() {
        bounds("which", talk()::which, 0, 1, NONE);
        ThreeDots x = new ThreeDots();
        x.say(0, 5, 0, false);
        due("none to him", x.which(0), NONE);
        due("the only one", x.which(1), 0);
        x.takeBack(0);
        due("back: none", x.which(1), NONE);
    }

    private static void driftBounds() {
        ThreeDots x = talk();
        for (int what = 0; what <= 1; what++) {
            int w = what;
            bounds("drift of one", v -> x.drift(v, w), 0, 1, -100);
        }
        bounds("drift what", v -> x.drift(0, v), 0, 1, -100);
        // 0 .. 9 leave a row of ten at most; what is told of falls is below 0, and not none.
        ThreeDots y = new ThreeDots();
        for (int k = 9; k >= 0; k--) {
            y.say(0, 5, k, false);
        }
        due("from nine to none", y.drift(0, 0) * 100 + y.drift(0, 1), 991);
    }

    private static void pausesBounds() {
        ThreeDots x = talk();
        for (int what = 0; what <= 2; what++) {
            int w = what;
            bounds("pauses of one", v -> x.pauses(v, w), 0, 1, NONE);
        }
        bounds("pauses what", v -> x.pauses(1, v), 0, 2, NONE);
    }

    private static void timeBounds() {
        for (int v : new int[] {DEEP, -2, 1440, FAR}) {
            ThreeDots x = new ThreeDots();
            x.time(3);
            due("time " + v, x.time(v), NONE);
            due("none more", x.look(9), 1);
        }
        ThreeDots x = new ThreeDots();
        due("none is, none was", x.time(NONE), 0);
        due("the least", x.time(0), 1);
        due("the most", x.time(1439), 2);
        for (int i = 3; i <= 10; i++) {
            due("how many", x.time(i), i);
        }
        due("there are ten", x.time(11), NONE);
        due("ten", x.look(9), 10);
        due("none is then", x.time(NONE), 0);
        due("none", x.look(9), 0);
        due("one again", x.time(11), 1);
        due("that one alone", x.fits(0), 102);
    }

    private static void fitsBounds() {
        ThreeDots x = talk();
        bounds("fits", x::fits, 0, 2, NONE);
        x.time(72);
        x.time(74);
        due("none fits", x.fits(0), 0);
        due("none fits: NONE", x.fits(1), NONE);
        due("none fits: NONE", x.fits(2), NONE);
    }

    // ---- promises 26 to 30 ----

    private static void gameBounds() {
        ThreeDots x = talk();
        bounds("game", x::game, 0, 1, NONE);
        x.takeBack(4);
        due("who begins loses", x.game(0), NONE);
        due("who begins loses", x.game(1), NONE);
    }

    private static void tableBounds() {
        bounds("table k", v -> bit(new ThreeDots().table(v, 5, 5)), 0, 3, 0);
        bounds("table a", v -> bit(new ThreeDots().table(1, v, 5)), 0, 99, 0);
        bounds("table b", v -> bit(new ThreeDots().table(2, 5, v)), 0, 99, 0);
        ThreeDots x = new ThreeDots();
        for (int k = 0; k < 4; k++) {
            due("one can't be: neither is told", x.table(k, 7, 100) || x.table(k, 100, 7), false);
            due("all rest still", x.rests(), 15);
        }
    }

    private static void deletesBounds() {
        ThreeDots x = talk();
        for (int what = 0; what <= 1; what++) {
            int w = what;
            bounds("deletes of one", v -> x.deletes(v, 5, w), 0, 1, NONE);
            bounds("deletes for n", v -> x.deletes(0, v, w), 1, 300, NONE);
        }
        bounds("deletes what", v -> x.deletes(0, 5, v), 0, 1, NONE);
    }

    private static void threadBounds() {
        ThreeDots x = talk();
        bounds("thread", x::thread, 0, 1, NONE);
        ThreeDots y = new ThreeDots();
        y.say(0, 5, 3, false);
        y.takeBack(0);
        due("none that is not BACK", y.thread(0), NONE);
        due("none that is not BACK", y.thread(1), NONE);
    }

    // ---- promises 32 to 38 ----

    private static void awakeBounds() {
        ThreeDots x = talk();
        for (int what = 0; what <= 2; what++) {
            int w = what;
            bounds("awake for n", v -> x.awake(v, w), 1, 48, NONE);
        }
        bounds("awake what", v -> x.awake(24, v), 0, 2, NONE);
        ThreeDots y = with(1, "one 0 from 0 for 24 busy;");
        due("none", y.awake(48, 0), 0);
        due("the first: NONE", y.awake(48, 1), NONE);
        due("no run", y.awake(48, 2), 0);
    }

    private static void mirrorsBounds() {
        ThreeDots x = talk();
        for (int what = 0; what <= 1; what++) {
            int w = what;
            bounds("mirrors of l", v -> x.mirrors(v, w), 1, 99, NONE);
        }
        bounds("mirrors what", v -> x.mirrors(5, v), 0, 1, NONE);
        tell(x, 0, "lasts 1 when long=2;lasts 2;");
        due("not within 60", x.mirrors(1, 0), NONE);
        due("LONG of the 60th", x.mirrors(1, 1), 1);
        due("LONG of the 60th", x.mirrors(2, 1), 2);
    }

    private static void easeBounds() {
        ThreeDots x = talk();
        for (int what = 0; what <= 1; what++) {
            int w = what;
            bounds("ease of one", v -> x.ease(v, 5, w), 0, 1, NONE);
            bounds("ease for n", v -> x.ease(1, v, w), 1, 300, NONE);
        }
        bounds("ease what", v -> x.ease(1, 5, v), 0, 1, NONE);
    }

    private static void splitBounds() {
        ThreeDots x = talk();
        bounds("split", x::split, 0, 1, NONE);
        x.takeBack(2);
        due("one alone: none", x.split(0), NONE);
        due("one alone: none", x.split(1), NONE);
        x.takeBack(3);
        due("none", x.split(0), NONE);
        due("none", x.split(1), NONE);
    }

    private static void undoBounds() {
        ThreeDots x = new ThreeDots();
        due("nothing", x.undo(), false);
        for (int i = 0; i < 9; i++) {
            x.say(0, 5, 0, false);
            due("6 are kept", x.look(10), Math.min(6, i + 1));
        }
        for (int i = 0; i < 6; i++) {
            due("undo", x.undo(), true);
        }
        due("nothing more", x.undo(), false);
        due("the first three stay", x.look(1) * 10 + x.look(3), 33);
    }

    private static void imageBounds() {
        ThreeDots x = new ThreeDots();
        due("there is none", x.image(false), false);
        due("still none", x.image(false), false);
        due("taken", x.image(true), true);
        due("gone back to", x.image(false), true);
        due("more than once", x.image(false), true);
    }

    private static void lookBounds() {
        ThreeDots x = talk();
        bounds("look", x::look, 0, 10, NONE);
        x.state(NONE);
        due("STATE as it is, NONE, too", x.look(4), NONE);
    }

    // ---- "MESSAGES, 60 at most": all that can be asked or done is so with sixty, too ----

    private static void askedOfSixty() {
        ThreeDots x = with(0, "hurt 1;go 0;");
        for (int i = 0; i < 60; i++) {
            x.say(0, 5, 0, false);
        }
        due("the latest", x.which(1), 59);
        due("none to 0", x.which(0), NONE);
        due("drift", x.drift(0, 0) * 10 + x.drift(0, 1), 10);
        due("pauses", x.pauses(1, 0) + x.pauses(1, 1) + x.pauses(1, 2), 60);
        due("an even game", x.game(0), NONE);
        due("first four", x.deletes(0, 2, 0) * 100 + x.deletes(0, 2, 1), 6615);
        due("none of 1", x.deletes(1, 2, 0) * 100 + x.deletes(1, 2, 1), 1000);
        due("thread", x.thread(0) * 10 + x.thread(1), 0);
        due("crossed", x.crossed(), 0);
        due("ease", x.ease(1, 2, 0) * 100 + x.ease(1, 2, 1), 180);
        due("split", x.split(0), NONE);
        due("goes", x.goes(999, 0) * 10 + x.goes(999, 1), 600);
        due("asks", x.asks(59, 1) * 10 + x.asks(59, 3), 31);
        due("ring", x.ring(), 0);
        due("take back", x.takeBack(59), true);
        due("a game of 59", x.game(0) * 10 + x.game(1), 1);
        due("read", x.minutes(2) * 100 + x.of(1, 0), 59);
        due("the last is back", x.message(59, 2), NONE);
        x.image(true);
        due("undone", x.undo() && x.undo() && x.undo() && x.message(59, 7) == 0, true);
        due("image", x.image(false) && x.message(59, 7) == 1 && x.message(58, 2) == 1, true);
    }

    private static void askedOfSixtyOfBoth() {
        // 0 says thirty, 1 answers them; each pause is 2, each thread has 1 and 2 kisses.
        ThreeDots x = with(0, "go 1000 when one=1;go 0;delay 1;kiss 2;");
        for (int i = 0; i < 30; i++) {
            x.say(0, 5, 1, false);
        }
        due("thirty answers", x.minutes(3), 30);
        due("pauses", x.pauses(1, 0) * 100 + x.pauses(1, 1) * 10 + x.pauses(1, 2), 6020);
        due("thirty wait for 0", x.pauses(0, 2), 30);
        due("the latest", x.which(0) * 100 + x.which(1), 5899);
        due("thread", x.thread(0) * 10 + x.thread(1), 30);
        due("split", x.split(0) * 10 + x.split(1), 10);
        due("read ahead of the answers", x.crossed(), 0);
        due("first four of 1", x.deletes(1, 9, 1), 0);
        due("an even game", x.game(0), NONE);
        x.takeBack(59);
        due("then the last of 0 waits", x.which(1), 29);
        due("no answer for want of room", x.minutes(9), 0);
    }

    // ---- what is refused, what is only asked ----

    private static Map<String, Consumer<ThreeDots>> refused() {
        Map<String, Consumer<ThreeDots>> calls = new LinkedHashMap<>();
        calls.put("set MINUTE", x -> x.set(0, 0, 10000));
        calls.put("set CROSS", x -> x.set(1, 0, 100));
        calls.put("set TOOK", x -> x.set(2, 0, -1));
        calls.put("set TICKS", x -> x.set(3, 1, 2));
        calls.put("set who", x -> x.set(1, 2, 50));
        calls.put("set what", x -> x.set(4, 0, 0));
        calls.put("say one", x -> x.say(2, 5, 0, false));
        calls.put("say long", x -> x.say(0, 100, 0, false));
        calls.put("say kisses", x -> x.say(0, 5, 10, false));
        calls.put("takeBack none", x -> x.takeBack(5));
        calls.put("takeBack read", x -> x.takeBack(0));
        calls.put("minutes 0", x -> x.minutes(0));
        calls.put("minutes 301", x -> x.minutes(301));
        calls.put("end", x -> x.end(1));
        calls.put("time", x -> x.time(1440));
        calls.put("table", x -> x.table(4, 1, 1));
        calls.put("image", x -> x.image(false));
        for (int k = 0; k < 4; k++) {
            int text = k;
            calls.put("text " + k, x -> tell(x, text, "?"));
        }
        calls.put("no text", x -> tell(x, 4, "go 1;"));
        return calls;
    }

    private static void refusedChangesNothing() {
        refused().forEach((name, call) -> {
            ThreeDots x = talk();
            List<Integer> before = seen(x);
            int undone = x.look(10);
            call.accept(x);
            same(name + " changes nothing", seen(x), before);
            due(name + " forgets nothing", x.look(10), undone);
            due(name + " leaves no tape", x.end(1), false);
            due(name + ": the saying is undone", x.undo() && x.look(1) == 4, true);
        });
    }

    private static void questionsChangeNothing() {
        ThreeDots x = talk();
        List<Integer> before = seen(x);
        int undone = x.look(10);
        for (int w = -1; w <= 11; w++) {
            for (int one = -1; one <= 2; one++) {
                x.of(one, w);
                x.message(one, w);
                x.asks(one, w);
                x.book(one, w);
                x.which(one);
                x.drift(one, w);
                x.pauses(one, w);
                x.deletes(one, 30, w);
                x.ease(one, 30, w);
            }
            x.goes(50, w);
            x.copies(5, 5, w);
            x.fits(w);
            x.game(w);
            x.thread(w);
            x.awake(5, w);
            x.mirrors(5, w);
            x.split(w);
            x.fault(w);
            x.needs(400, w);
        }
        x.sure(500, 1, 2);
        x.waits(500);
        x.crossed();
        x.rests();
        same("what is asked changes nothing", seen(x), before);
        due("nor what can be undone", x.look(10), undone);
    }
}
