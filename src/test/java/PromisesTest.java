import java.util.ArrayList;
import java.util.List;

/** Each promise of the document by hand: ordinary inputs, the edges it names, wrong inputs. */
public final class PromisesTest extends Due {
    public static void main(String[] args) {
        newObject();
        state();
        set();
        setMinute();
        say();
        takeBack();
        ring();
        minutes();
        minutesByHours();
        minutesBySayings();
        minutesByLaw();
        minutesWithoutRoom();
        minutesToTheLast();
        feedAndEnd();
        text();
        lawFaults();
        otherFaults();
        tooManyFaults();
        of();
        message();
        asks();
        asksByLaw();
        book();
        goes();
        copies();
        sure();
        needs();
        waits();
        which();
        drift();
        pauses();
        timeAndFits();
        game();
        tableAndRests();
        deletes();
        thread();
        crossed();
        awake();
        mirrors();
        ease();
        split();
        undo();
        undoForgotten();
        undoRows();
        edges();
        drawEdges();
        readingHours();
        longTexts();
        deletesTies();
        easeEdges();
        splitEdges();
        image();
        look();
        finish();
    }

    // ---- promise 1 ----

    private static void newObject() {
        ThreeDots x = new ThreeDots();
        due("NONE", ThreeDots.NONE, -1);
        for (int w = 0; w <= 10; w++) {
            due("new look(" + w + ")", x.look(w), 0);
        }
        for (int one = 0; one < 2; one++) {
            due("new cross", x.of(one, 0), 10);
            due("new took", x.of(one, 1), 0);
            due("new ticks", x.of(one, 2), 1);
            due("new: free", x.of(one, 3), 0);
        }
        due("new fault", x.fault(0), 0);
        due("new place", x.fault(1), NONE);
        due("new undo", x.undo(), false);
        due("new image", x.image(false), false);
        due("new tape", x.end(1), false);
        due("two objects", new ThreeDots().say(0, 1, 0, false), 0);
        due("share nothing", x.look(1), 0);
    }

    // ---- promise 2 ----

    private static void state() {
        ThreeDots x = new ThreeDots();
        due("state", x.state(77), 0);
        due("state", x.state(DEEP), 77);
        due("state", x.state(5), DEEP);
        due("look state", x.look(4), 5);
        x.say(0, 1, 0, false);
        x.minutes(2);
        due("one draw", x.look(4), 5 * 1664525 + 1013904223);
        // The draw is 1013904223 + 8322625 = 1022226848; by 256 and modulo 1000: 3993073 % 1000 = 73 < 900.
        due("below go", x.message(0, 8), 2);
        x.set(0, 0, 0);
        // The highest 24 bits without sign: a state below 0 still draws 0 or more.
        x.state(-1426500812);
        x.say(0, 1, 0, false);
        x.minutes(2);
        int s = -1426500812 * 1664525 + 1013904223;
        due("unsigned draw", x.message(0, 8), (s >>> 8) % 1000 < 900 ? 2 : NONE);
    }

    // ---- promise 3 ----

    private static void set() {
        ThreeDots x = new ThreeDots();
        int[][] bounds = {{1, 99}, {2, 9999}, {3, 1}};
        for (int[] b : bounds) {
            for (int one = 0; one < 2; one++) {
                due("set most", x.set(b[0], one, b[1]), true);
                due("is most", x.of(one, b[0] - 1), b[1]);
                due("set more", x.set(b[0], one, b[1] + 1), false);
                due("still most", x.of(one, b[0] - 1), b[1]);
                due("set 0", x.set(b[0], one, 0), true);
                due("is 0", x.of(one, b[0] - 1), 0);
                due("set below", x.set(b[0], one, -1), false);
            }
            due("other one stays", x.set(b[0], 0, 1) && x.of(1, b[0] - 1) == 0, true);
            due("no such one", x.set(b[0], 2, 1), false);
            due("no such one", x.set(b[0], -1, 1), false);
        }
        due("another what", x.set(4, 0, 0), false);
        due("another what", x.set(-1, 0, 0), false);
        due("far", x.set(1, 0, FAR), false);
        due("deep", x.set(2, 0, DEEP), false);
    }

    private static void setMinute() {
        ThreeDots x = new ThreeDots();
        x.say(0, 5, 1, false);
        x.set(2, 1, 4);
        due("minute 10000", x.set(0, 0, 10000), false);
        due("minute -1", x.set(0, 0, -1), false);
        due("messages stay", x.look(1), 1);
        due("minute, who not asked", x.set(0, 99, 9999), true);
        due("minute", x.look(0), 9999);
        due("messages go", x.look(1), 0);
        due("no message", x.message(0, 0), -2);
        due("the book stays", x.look(3), 1);
        due("took stays", x.of(1, 1), 4);
        due("minute 0", x.set(0, -5, 0), true);
        due("numbers from 0 again", x.say(1, 5, 1, false), 0);
        due("nothing due from before", x.minutes(30) >= 0, true);
    }

    // ---- promise 4 ----

    private static void say() {
        ThreeDots x = new ThreeDots();
        x.set(0, 0, 33);
        due("say", x.say(1, 99, 9, true), 0);
        int[] want = {1, 33, NONE, 99, 9, 1, NONE, 0, NONE};
        for (int w = 0; w < 9; w++) {
            due("said what " + w, x.message(0, w), want[w]);
        }
        due("say least", x.say(0, 1, 0, false), 1);
        due("no stop", x.message(1, 5), 0);
        due("book", x.book(0, 0) * 1000 + x.book(0, 1) * 100 + x.book(0, 2) * 10 + x.book(0, 3), 33010);
        due("one 2", x.say(2, 5, 0, false), NONE);
        due("one -1", x.say(-1, 5, 0, false), NONE);
        due("long 0", x.say(0, 0, 0, false), NONE);
        due("long 100", x.say(0, 100, 0, false), NONE);
        due("kisses -1", x.say(0, 5, -1, false), NONE);
        due("kisses 10", x.say(0, 5, 10, false), NONE);
        due("nothing came", x.look(1) * 10 + x.look(10), 22);
        for (int i = 2; i < 60; i++) {
            due("say " + i, x.say(0, 5, 0, false), i);
        }
        due("no room", x.say(0, 5, 0, false), NONE);
        due("sixty", x.look(1), 60);
    }

    // ---- promise 5 ----

    private static void takeBack() {
        ThreeDots x = new ThreeDots();
        due("none there", x.takeBack(0), false);
        x.say(0, 5, 0, false);
        x.say(1, 5, 0, false);
        due("below", x.takeBack(-1), false);
        due("beyond", x.takeBack(2), false);
        due("far", x.takeBack(FAR), false);
        due("deep", x.takeBack(DEEP), false);
        due("take back", x.takeBack(1), true);
        due("is back", x.message(1, 7), 1);
        due("other is not", x.message(0, 7), 0);
        due("is back already", x.takeBack(1), false);
        due("book: what", x.book(2, 1), 3);
        due("book: who", x.book(2, 2), 1);
        due("book: which", x.book(2, 3), 1);
        x.minutes(2);
        due("read, but not what is back", x.message(0, 2), 1);
        due("never read", x.message(1, 2), NONE);
        due("read: too late", x.takeBack(0), false);
    }

    // ---- promise 6 ----

    private static void ring() {
        ThreeDots x = with(0, "delay 50;go 1000;");
        x.set(1, 0, 45);
        x.set(1, 1, 19);
        x.say(0, 5, 0, false);
        x.minutes(2);
        due("due", x.message(0, 8), 51);
        due("ring", x.ring(), 25);
        due("cross 0", x.of(0, 0), 25);
        due("cross 1, 0 at least", x.of(1, 0), 0);
        due("nothing due", x.message(0, 8), NONE);
        due("book: minute", x.book(2, 0), 2);
        due("book: what", x.book(2, 1), 4);
        due("book: who", x.book(2, 2), NONE);
        due("book: which", x.book(2, 3), NONE);
        due("no answer comes", x.minutes(60), 0);
        due("ring again", x.ring(), 5);
        due("and again", x.ring(), 0);
        // What is read only later can be due again.
        x.say(0, 5, 0, false);
        x.minutes(2);
        due("due again", x.message(1, 8) != NONE, true);
    }

    // ---- promise 7 ----

    private static void minutes() {
        ThreeDots x = with(0, "go 1000;delay 3;");
        due("0", x.minutes(0), NONE);
        due("-1", x.minutes(-1), NONE);
        due("301", x.minutes(301), NONE);
        due("far", x.minutes(FAR), NONE);
        due("deep", x.minutes(DEEP), NONE);
        due("nothing done", x.look(0), 0);
        due("300", x.minutes(300), 0);
        due("minute", x.look(0), 300);
        x.set(0, 0, 10);
        x.say(0, 9, 4, true);
        due("sent this minute: not read", x.minutes(1), 0);
        due("not read", x.message(0, 2), NONE);
        x.minutes(1);
        due("read the next", x.message(0, 2), 11);
        due("due by delay", x.message(0, 8), 14);
        due("cross by stop", x.of(1, 0), 14);
        due("not yet", x.minutes(2), 0);
        due("came", x.minutes(1), 1);
        int[] want = {1, 14, NONE, 5, 4, 0, 0, 0, NONE};
        for (int w = 0; w < 9; w++) {
            due("answer what " + w, x.message(1, w), want[w]);
        }
        due("answered: due none", x.message(0, 8), NONE);
        due("took of who wrote", x.of(0, 1), 4);
        due("took of who answered", x.of(1, 1), 0);
        due("read line", x.book(1, 0) * 1000 + x.book(1, 1) * 100 + x.book(1, 2) * 10 + x.book(1, 3), 11110);
        due("answer line", x.book(2, 0) * 1000 + x.book(2, 1) * 100 + x.book(2, 2) * 10 + x.book(2, 3), 14211);
        // 20 minutes more: each answer is read a minute later and answered three minutes behind that.
        due("on and on", x.minutes(20), 5);
        due("last took", x.of(1, 1), 4);
    }

    private static void minutesByHours() {
        ThreeDots x = new ThreeDots();
        tell(x, 0, "go 1000;delay 1;hurt 7;");
        tell(x, 1, "one 1 from 23 for 2 sleep;one 1 from 1 for 1 busy;one 1 from 2 for 1 bus;");
        x.set(0, 0, 23 * 60);
        x.say(0, 5, 0, false);
        x.minutes(120);
        due("asleep round the clock", x.message(0, 2), NONE);
        due("minute", x.look(0), 25 * 60);
        x.minutes(60);
        due("busy", x.message(0, 2), NONE);
        x.minutes(1);
        due("on a bus he reads", x.message(0, 2), 26 * 60);
        due("hurt", x.of(1, 0), 17);
        x.minutes(1);
        due("answers", x.message(1, 1), 26 * 60 + 1);
        due("took long", x.of(0, 1), 181);
        // At hour 4, and at each full day behind it, a tenth goes, rounded down, of what there was.
        x = new ThreeDots();
        x.set(1, 0, 99);
        x.set(1, 1, 9);
        x.set(0, 0, 238);
        x.minutes(1);
        due("239: not yet", x.of(0, 0), 99);
        x.minutes(1);
        due("240", x.of(0, 0), 90);
        due("9 loses nothing", x.of(1, 0), 9);
        x.minutes(300);
        due("once", x.of(0, 0), 90);
        x.set(0, 0, 1679);
        x.minutes(1);
        due("next day", x.of(0, 0), 81);
    }

    private static void minutesBySayings() {
        ThreeDots x = new ThreeDots();
        tell(x, 0, "go 0;");
        tell(x, 2, "at 5 one 0 says 9 kisses 3 stop;at 5 one 1 says 8 kisses 2;at 5 one 0 says 7 kisses 1;"
            + "at 5 one 0 deletes;at 7 one 0 deletes;at 5 one 1 deletes;at 6 one 1 deletes;");
        due("not before", x.minutes(5), 0);
        due("three came", x.minutes(1), 3);
        due("first", x.message(0, 3) * 100 + x.message(0, 4) * 10 + x.message(0, 5), 931);
        due("second", x.message(1, 3) * 100 + x.message(1, 4) * 10 + x.message(1, 5), 820);
        due("answers none", x.message(0, 6), NONE);
        due("his latest is back", x.message(2, 7), 1);
        due("not his first", x.message(0, 7), 0);
        due("the other one's is back", x.message(1, 7), 1);
        due("book in the order of lines", x.book(3, 1) * 100 + x.book(3, 2) * 10 + x.book(3, 3), 302);
        due("then", x.book(4, 1) * 100 + x.book(4, 2) * 10 + x.book(4, 3), 311);
        due("nothing to delete: no line", x.minutes(1) * 100 + x.look(3), 6);
        due("read", x.message(0, 2), 6);
        x.minutes(1);
        due("what is read can't go", x.message(0, 7), 0);
    }

    private static void minutesByLaw() {
        // Hurt counts first; go and delay are asked with the cross that is then.
        ThreeDots x = new ThreeDots();
        tell(x, 0, "hurt 30;go 1000 when cross=40;go 0;delay cross;kiss 9 when cross>39;lasts many*10+hour;");
        x.say(0, 5, 0, false);
        x.minutes(2);
        due("cross", x.of(1, 0), 40);
        due("delay by it", x.message(0, 8), 41);
        x.set(1, 1, 60);
        x.minutes(40);
        due("lasts by many before it", x.message(1, 3), 10);
        due("kiss", x.message(1, 4), 9);
        due("cross 50 at least: stop", x.message(1, 5), 1);
        x = with(0, "hurt 50;");
        x.set(1, 1, 70);
        x.say(0, 5, 0, false);
        x.minutes(2);
        due("99 at most", x.of(1, 0), 99);
        x = with(0, "hurt 0-50;go 1000;delay 1;");
        x.set(1, 0, 50);
        x.set(1, 1, 49);
        x.say(0, 5, 0, false);
        x.say(1, 5, 0, false);
        x.minutes(2);
        due("0 at least", x.of(0, 0) + x.of(1, 0), 0);
        x.set(1, 0, 50);
        x.set(1, 1, 49);
        x.minutes(1);
        due("answers", x.look(1), 4);
        due("of 1 with 49: no stop", x.message(2, 0) * 10 + x.message(2, 5), 10);
        due("of 0 with 50: stop", x.message(3, 0) * 10 + x.message(3, 5), 1);
        // The took that is told on is held to 9999.
        x = new ThreeDots();
        tell(x, 0, "go 1000;delay 1;");
        tell(x, 1, "one 1 from 0 for 24 sleep;");
        x.say(0, 5, 0, false);
        for (int i = 0; i < 34; i++) {
            x.minutes(300);
        }
        tell(x, 1, "");
        x.minutes(2);
        due("sent to answered", x.message(1, 1), 10201);
        due("took at most", x.of(0, 1), 9999);
        due("but the pause is whole", x.pauses(1, 1), 10201);
    }

    private static void minutesWithoutRoom() {
        ThreeDots x = with(0, "go 1000;delay 1;");
        for (int i = 0; i < 60; i++) {
            x.say(i == 0 ? 0 : 1, 5, 0, false);
        }
        x.set(1, 0, 0);
        x.set(1, 1, 0);
        x.minutes(2);
        due("due", x.message(0, 8), 2);
        due("left out", x.minutes(1), 0);
        due("sixty", x.look(1), 60);
        due("no longer due", x.message(0, 8), NONE);
        due("took stays", x.of(0, 1), 0);
        due("no line of it", x.book(x.look(3) - 1, 1), 1);
        due("goes on", x.minutes(5), 0);
        tell(x, 2, "at 8 one 0 says 1 kisses 0;");
        due("no room for a saying", x.minutes(1), 0);
        // With one place free the first that is due has it.
        x = with(0, "go 1000;delay 1;");
        for (int i = 0; i < 59; i++) {
            x.say(0, 5, 0, false);
        }
        due("one has room", x.minutes(3), 1);
        due("the first", x.message(59, 6), 0);
    }

    private static void minutesToTheLast() {
        ThreeDots x = new ThreeDots();
        x.set(0, 0, 9999);
        for (int i = 0; i < 299; i++) {
            x.minutes(300);
        }
        due("minute", x.look(0), 99699);
        due("hour", x.look(2), 99699 / 60 % 24);
        x.minutes(200);
        due("beyond the last", x.minutes(101), NONE);
        due("nothing done", x.look(0), 99899);
        due("to the last", x.minutes(100), 0);
        due("minute", x.look(0), 99999);
        due("no more", x.minutes(1), NONE);
        due("say there", x.say(0, 1, 0, false), 0);
        due("sent there", x.message(0, 1), 99999);
    }

    // ---- promises 8 and 9 ----

    private static void feedAndEnd() {
        ThreeDots x = new ThreeDots();
        // The bytes of "go 1;" in their order, the highest of each number first, then blanks.
        due("feed", x.feed(0x676f2031, 0x3b202020, 0x20202020, 0x0a0a2020, 0x20202020), 20);
        due("text", x.text(0), 1);
        due("the tape is empty then", x.end(1), false);
        due("end 0", x.end(0), true);
        for (int i = 1; i <= 20; i++) {
            due("feed " + i, x.feed(0x20202020, 0x20202020, 0x20202020, 0x20202020, 0x20202020), 20 * i);
        }
        due("no more than 400", x.feed(0, 0, 0, 0, 0), NONE);
        due("nothing came: 401", x.end(401), false);
        due("end far", x.end(FAR), false);
        due("end -1", x.end(-1), false);
        due("end deep", x.end(DEEP), false);
        due("end 400", x.end(400), true);
        due("end 381", x.end(381), true);
        due("still too many", x.feed(0, 0, 0, 0, 0), NONE);
        due("end 380", x.end(380), true);
        due("not longer again", x.end(381), false);
        due("up to 400", x.feed(0x20202020, 0, 0, 0, 0), 400);
        due("text", x.text(0), NONE);
        due("a byte 0 can't stand", x.fault(0) * 1000 + x.fault(1), 1384);
        // Bytes count without sign.
        due("feed", x.feed(-1, -1, -1, -1, -1), 20);
        due("text", x.text(0), NONE);
        due("place", x.fault(0) * 1000 + x.fault(1), 1000);
    }

    // ---- promises 10 and 11 ----

    private static void text() {
        good(0, "", 0);
        good(1, "  \n ", 0);
        good(0, "delay took;lasts long/2+1;kiss kisses;hurt 5*stop;go 900;", 5);
        good(0, "go one+cross-took*long/3*kisses+stop-bus+hour*ticks/9999+many;", 1);
        good(0, "go 1 when 1=1 and 2>1 or not 3<4 and (5=5 or not (6=6));", 1);
        good(0, "go\n0001\nwhen\nnot\n0<1\n;", 1);
        good(0, "go1when1=1;", 1);
        good(1, "one 0 from 0 for 1 free;one 1 from 23 for 24 bus;one 0 from 5 for 5 busy;one 1 from 1 for 2 sleep;",
            4);
        good(2, "at 0 one 0 says 1 kisses 0;at 9999 one 1 says 99 kisses 9 stop;at 5 one 0 deletes;", 3);
        good(3, "sign easy 1 cross 999;sign easy 999 cross 1;", 2);
        ThreeDots x = with(1, "one 0 from 0 for 24 busy;");
        due("a fault", tell(x, 1, "one 0 from 0 for 24 sleep"), NONE);
        due("it stays as it was", x.of(0, 3) * 10 + x.look(6), 21);
        due("fault", x.fault(0) * 100 + x.fault(1), 125);
        due("another what", x.fault(2), NONE);
        due("another what", x.fault(-1), NONE);
        due("the tape is empty after a fault", x.feed(0, 0, 0, 0, 0), 20);
        due("no such text", x.text(4), NONE);
        due("fault tells 0", x.fault(0), 0);
        due("no place", x.fault(1), NONE);
        due("no such text", x.text(-1), NONE);
        due("no such text", x.text(FAR), NONE);
        x.end(0);
        due("another fault", tell(x, 3, "easy"), NONE);
        due("fault", x.fault(0), 1);
        due("told again, empty", tell(x, 1, ""), 0);
        due("fault gone", x.fault(0), 0);
        due("free again", x.of(0, 3), 0);
    }

    private static void lawFaults() {
        faulty(0, "when", 1, 0);
        faulty(0, ";", 1, 0);
        faulty(0, "delay", 1, 5);
        faulty(0, "delay   ", 1, 8);
        faulty(0, "go 1", 1, 4);
        faulty(0, "go 1;go", 1, 7);
        faulty(0, "go 1 1;", 1, 5);
        faulty(0, "go 1+;", 1, 5);
        faulty(0, "go -1;", 1, 3);
        faulty(0, "go (1);", 1, 3);
        faulty(0, "go 12345;", 1, 3);
        faulty(0, "go 00001;", 1, 3);
        faulty(0, "goo 1;", 1, 0);
        faulty(0, "go 1 when;", 1, 9);
        faulty(0, "go 1 when 1;", 1, 11);
        faulty(0, "go 1 when 1<2<3;", 1, 13);
        faulty(0, "go 1 when (1<2;", 1, 14);
        faulty(0, "go 1 when 1<2);", 1, 13);
        faulty(0, "go 1 when (1)<2;", 1, 12);
        faulty(0, "go 1 when not;", 1, 13);
        faulty(0, "go 1 when 1=1 and;", 1, 17);
        faulty(0, "go 1 when 1=1 or or 1=1;", 1, 17);
        faulty(0, "go 1/one;", 1, 5);
        faulty(0, "go 1/0;", 2, 5);
        faulty(0, "go 1/0000 when", 2, 5);
        faulty(0, "go 1/00000;", 1, 5);
        faulty(0, "go 1 when 2=3/0;", 2, 14);
        faulty(0, "go free;", 1, 3);
        faulty(0, "Go 1;", 1, 0);
        faulty(0, "go\t1;", 1, 2);
        faulty(0, "go 1;\0", 1, 5);
        faulty(0, "go 1,", 1, 4);
        faulty(0, "go 1; one 1/0;", 1, 6);
    }

    private static void otherFaults() {
        faulty(1, "one", 1, 3);
        faulty(1, "one 2 from 0 for 1 bus;", 2, 4);
        faulty(1, "one 0 from 24 for 1 bus;", 2, 11);
        faulty(1, "one 0 from 23 for 0 bus;", 2, 18);
        faulty(1, "one 0 from 23 for 25 bus;", 2, 18);
        faulty(1, "one 0 from 23 for 24 long;", 1, 21);
        faulty(1, "one 0 from 23 for 24 for;", 1, 21);
        faulty(1, "one 0 from 23 for 24;", 1, 20);
        faulty(1, "one 0 for 24 bus;", 1, 6);
        faulty(1, "one one from", 1, 4);
        faulty(1, "bus", 1, 0);
        faulty(2, "at", 1, 2);
        faulty(2, "at 10000 one 0 deletes;", 1, 3);
        faulty(2, "at 1 one 2 deletes;", 2, 9);
        faulty(2, "at 1 one 0;", 1, 10);
        faulty(2, "at 1 one 0 says 0 kisses 0;", 2, 16);
        faulty(2, "at 1 one 0 says 100 kisses 0;", 2, 16);
        faulty(2, "at 1 one 0 says 99 kisses 10;", 2, 26);
        faulty(2, "at 1 one 0 says 99 stop;", 1, 19);
        faulty(2, "at 1 one 0 says 99 kisses 9 stop stop;", 1, 33);
        faulty(2, "at 1 one 0 deletes stop;", 1, 19);
        faulty(2, "one 0 deletes;", 1, 0);
        faulty(3, "sign", 1, 4);
        faulty(3, "sign easy 0 cross 1;", 2, 10);
        faulty(3, "sign easy 1000 cross 1;", 2, 10);
        faulty(3, "sign easy 1 cross 0;", 2, 18);
        faulty(3, "sign easy 1 cross 1000;", 2, 18);
        faulty(3, "sign cross 1 easy 1;", 1, 5);
        faulty(3, "sign easy 1 cross 1", 1, 19);
        faulty(3, "delay", 1, 0);
    }

    private static void tooManyFaults() {
        good(0, "go 1;".repeat(16), 16);
        faulty(0, "go 1;".repeat(17), 3, 80);
        faulty(0, "go 1;".repeat(16) + "when", 1, 80);
        faulty(0, "go 1;".repeat(15) + "go 1/0;go 1;", 2, 80);
        good(1, "one 0 from 0 for 1 bus;".repeat(16), 16);
        faulty(1, "one 0 from 0 for 1 bus;".repeat(16) + " one", 3, 369);
        good(2, "at 1 one 0 deletes;".repeat(16), 16);
        faulty(2, "at 1 one 0 deletes;".repeat(16) + "at 1", 3, 304);
        good(3, "sign easy 5 cross 6;".repeat(8), 8);
        faulty(3, "sign easy 5 cross 6;".repeat(9), 3, 160);
        faulty(3, "sign easy 5 cross 6;".repeat(8) + "easy", 1, 160);
        good(0, "go 1 when " + "not ".repeat(8) + "1=1;", 1);
        faulty(0, "go 1 when " + "not ".repeat(9) + "1=1;", 3, 42);
        good(0, "go 1 when " + "(".repeat(8) + "1=1" + ")".repeat(8) + ";", 1);
        faulty(0, "go 1 when " + "(".repeat(9) + "1=1" + ")".repeat(9) + ";", 3, 18);
        good(0, "go 1 when " + "not(".repeat(4) + "1=1" + ")".repeat(4) + ";", 1);
        faulty(0, "go 1 when " + "not(".repeat(4) + "not 1=1" + ")".repeat(4) + ";", 3, 26);
        faulty(0, "go 1 when " + "(not ".repeat(4) + "(1=1", 3, 30);
        // What is closed does not count.
        good(0, "go 1 when " + "not 1=1 and ".repeat(10) + "(1=1) or (1=1) and (not 1=1);", 1);
        good(0, "go 1 when " + "not ".repeat(8) + "1=1 and " + "(".repeat(8) + "1=1" + ")".repeat(8) + ";", 1);
    }

    // ---- promise 12 ----

    private static void of() {
        ThreeDots x = with(1, "one 0 from 22 for 4 sleep;one 0 from 0 for 24 bus;one 1 from 23 for 1 busy;");
        int[][] hours = {{21, 1, 0}, {22, 3, 0}, {23, 3, 2}, {0, 3, 0}, {1, 3, 0}, {2, 1, 0}};
        for (int[] h : hours) {
            x.set(0, 0, h[0] * 60 + 59);
            due("0 at " + h[0], x.of(0, 3), h[1]);
            due("1 at " + h[0], x.of(1, 3), h[2]);
        }
        x.set(0, 0, 5 * 1440 + 22 * 60);
        due("on another day", x.of(0, 3), 3);
        due("no such one", x.of(2, 0), NONE);
        due("no such one", x.of(-1, 3), NONE);
        due("another what", x.of(0, 4), NONE);
        due("another what", x.of(1, -1), NONE);
        due("far", x.of(FAR, DEEP), NONE);
    }

    // ---- promise 13 ----

    private static void message() {
        ThreeDots x = new ThreeDots();
        due("none", x.message(0, 0), -2);
        x.say(1, 7, 3, true);
        due("-1", x.message(-1, 0), -2);
        due("1", x.message(1, 0), -2);
        due("far", x.message(FAR, 0), -2);
        due("deep", x.message(DEEP, 0), -2);
        due("what 9", x.message(0, 9), -2);
        due("what -1", x.message(0, -1), -2);
        due("long", x.message(0, 3), 7);
    }

    // ---- promise 14 ----

    private static void asks() {
        ThreeDots x = new ThreeDots();
        due("none", x.asks(0, 0), -100);
        x.set(2, 0, 9999);
        x.set(2, 1, 30);
        x.say(0, 8, 2, true);
        x.say(1, 99, 9, false);
        int[] first = {30, 5, 2, 5, 900};
        int[] second = {999, 50, 9, 0, 900};
        for (int w = 0; w < 5; w++) {
            due("asks 1 what " + w, x.asks(0, w), first[w]);
            due("asks 0 what " + w, x.asks(1, w), second[w]);
        }
        x.takeBack(0);
        due("back or not", x.asks(0, 0), 30);
        due("what 5", x.asks(0, 5), -100);
        due("what -1", x.asks(0, -1), -100);
        due("i -1", x.asks(-1, 0), -100);
        due("i 2", x.asks(2, 0), -100);
        tell(x, 0, "delay 0;lasts 0;kiss 0-1;hurt 0-51;go 0-1;");
        int[] least = {1, 1, 0, -50, 0};
        for (int w = 0; w < 5; w++) {
            due("least " + w, x.asks(0, w), least[w]);
        }
        tell(x, 0, "delay 1000;lasts 100;kiss 10;hurt 51;go 1001;");
        int[] most = {999, 99, 9, 50, 1000};
        for (int w = 0; w < 5; w++) {
            due("most " + w, x.asks(0, w), most[w]);
        }
    }

    private static int go(ThreeDots x, String law) {
        due("told \"" + law + "\"", tell(x, 0, law) > 0, true);
        return x.asks(0, 4);
    }

    private static void asksByLaw() {
        ThreeDots x = with(1, "one 1 from 7 for 1 bus;one 0 from 8 for 1 bus;");
        x.set(0, 0, 7 * 60 + 59);
        x.set(1, 1, 44);
        x.set(1, 0, 55);
        x.set(2, 1, 66);
        x.set(2, 0, 77);
        x.set(3, 1, 0);
        x.say(0, 88, 6, true);
        x.say(0, 1, 0, false);
        String[] facts = {"one", "cross", "took", "long", "kisses", "stop", "bus", "hour", "ticks", "many"};
        int[] values = {1, 44, 66, 88, 6, 1, 1, 7, 1, 2};
        for (int i = 0; i < facts.length; i++) {
            due(facts[i], go(x, "go " + facts[i] + ";"), values[i]);
        }
        x.minutes(1);
        due("not on a bus", go(x, "go bus;"), 0);
        due("hour", go(x, "go hour;"), 8);
        due("products first", go(x, "go 1+2*3;"), 7);
        due("from the left", go(x, "go 20-5-4+1;"), 12);
        due("parts and products from the left", go(x, "go 7/2*2;"), 6);
        due("parts and products from the left", go(x, "go 2*7/4*3;"), 9);
        due("towards 0", go(x, "go 100+0-7/2;"), 97);
        due("towards 0, below 0", go(x, "hurt one-8/3;go 500;") * 0 + x.asks(0, 3), -1);
        due("towards 0, a product below 0", go(x, "go 9-hour*hour;") * 0 + tell(x, 0, "hurt ticks*0-7;") * 0
            + x.asks(0, 3), -7);
        due("wraps", go(x, "go 9999*9999*9999/9999;"), 9999 * 9999 * 9999 / 9999 > 0 ? 1000 : 0);
        due("wraps to below 0", go(x, "go 9999*9999*30;"), 9999 * 9999 * 30 > 0 ? 1000 : 0);
        due("wraps by a sum", go(x, "go 9999*9999*21+9999*9999 when 9999*9999*21+9999*9999<0;go 7;"), 0);
        due("and before or", go(x, "go 1 when 1=1 or 1=1 and 1=2;go 2;"), 1);
        due("and before or", go(x, "go 1 when 1=2 and 1=1 or 1=1;go 2;"), 1);
        due("( )", go(x, "go 1 when (1=1 or 1=1) and 1=2;go 2;"), 2);
        due("not binds close", go(x, "go 1 when not 1=2 and 1=2;go 2;"), 2);
        due("not ( )", go(x, "go 1 when not (1=2 and 1=2);go 2;"), 1);
        due("not not", go(x, "go 1 when not not 1=1;go 2;"), 1);
        due("<", go(x, "go 1 when 1<1;go 2 when 1<2;go 3;"), 2);
        due(">", go(x, "go 1 when 1>1;go 2 when 2>1;go 3;"), 2);
        due("=", go(x, "go 1 when 1=2;go 2 when 2=2;go 3;"), 2);
        due("sums compared", go(x, "go 1 when 1+1*5=6 and 9-1>7;go 2;"), 1);
        due("the first line", go(x, "kiss 1;go 11;go 12;"), 11);
        due("none that is so", go(x, "go 1 when 1=2;"), 900);
        due("other words don't count", go(x, "delay 5;kiss 6;"), 900);
        due("deep", go(x, "go 1 when (((((((not 1=2)))))));go 2;"), 1);
    }

    // ---- promise 15 ----

    private static void book() {
        ThreeDots x = with(0, "go 1000;delay 1;");
        due("no line", x.book(0, 0), -2);
        x.say(0, 5, 0, false);
        due("-1", x.book(-1, 0), -2);
        due("1", x.book(1, 0), -2);
        due("what 4", x.book(0, 4), -2);
        due("what -1", x.book(0, -1), -2);
        due("far", x.book(FAR, 0), -2);
        for (int i = 0; i < 160; i++) {
            x.ring();
        }
        due("150 lines", x.look(3), 150);
        due("the last", x.book(149, 1), 4);
        due("no more", x.book(150, 1), -2);
        due("undo", x.undo(), true);
        due("still full", x.look(3), 150);
        x = new ThreeDots();
        for (int i = 0; i < 151; i++) {
            x.ring();
        }
        x.undo();
        due("full", x.look(3), 150);
        x.undo();
        due("one less", x.look(3), 149);
        x.say(1, 3, 3, false);
        due("written anew", x.book(149, 1) * 100 + x.book(149, 2) * 10 + x.book(149, 3), 10);
    }

    // ---- promise 16 ----

    private static void goes() {
        ThreeDots x = new ThreeDots();
        due("0", x.goes(0, 0), -2);
        due("1000", x.goes(1000, 0), -2);
        due("what 4", x.goes(5, 4), -2);
        due("what -1", x.goes(5, -1), -2);
        due("none", x.goes(999, 1), NONE);
        due("cross 0", x.goes(240, 2), 9);
        due("cross 1", x.goes(239, 3), 10);
        x = new ThreeDots();
        tell(x, 0, "delay 9;go 500;hurt 3;");
        tell(x, 2, "at 40 one 1 says 5 kisses 0;at 41 one 0 deletes;");
        x.say(0, 5, 0, false);
        List<Integer> before = seen(x);
        // Said at 0, read at 1, answered at 10, read at 11, answered at 20, 30, 40; each reading hurts.
        due("ten minutes", x.goes(10, 0), 1);
        due("eleven", x.goes(11, 0), 2);
        due("whose", x.goes(11, 1), 1);
        due("whose", x.goes(21, 1), 0);
        due("hurt 1", x.goes(12, 3), 13);
        due("hurt 0", x.goes(12, 2), 13);
        due("at 40 a saying and an answer", x.goes(41, 0), 6);
        due("whose is the last", x.goes(41, 1), 0);
        due("that is taken back at 41", x.goes(42, 1), 1);
        same("nothing stays", seen(x), before);
        due("nothing to undo but the saying", x.look(10), 1);
        tell(x, 0, "delay 9;go 499;");
        due("below 500: no answer", x.goes(30, 0), 1);
        tell(x, 2, "");
        tell(x, 0, "delay 1;go 1000;");
        due("up to 60", x.goes(999, 0), 60);
    }

    // ---- promise 17 ----

    private static void copies() {
        ThreeDots x = with(0, "delay took+1;");
        due("t -1", x.copies(-1, 5, 0), NONE);
        due("t 1000", x.copies(1000, 5, 0), NONE);
        due("l 0", x.copies(5, 0, 0), NONE);
        due("l 100", x.copies(5, 100, 0), NONE);
        due("what 3", x.copies(5, 5, 3), NONE);
        due("what -1", x.copies(5, 5, -1), NONE);
        due("not within 60", x.copies(0, 5, 0), NONE);
        due("not within 60", x.copies(0, 5, 1), NONE);
        due("greatest of 60", x.copies(0, 5, 2), 60);
        // From 940: 941 .. 999 for the first 59 answers, 999 again at 60, but by the other one.
        due("held to 999", x.copies(940, 5, 2), 999);
        due("not within 60", x.copies(940, 5, 0), NONE);
        due("at 60", x.copies(942, 5, 0), 59);
        due("two behind", x.copies(942, 5, 1), 2);
        due("exactly the 60th", x.copies(941, 5, 0), 60);
        // 0 doubles, 1 takes a third: 10 -> 20, 6, 12, 4, 8, 2, 4, 1, 2, 1: one 1 had 1 at 8, again at 10.
        tell(x, 0, "delay took*2 when one=0;delay took/3;");
        due("comes round", x.copies(10, 5, 0), 10);
        due("how far", x.copies(10, 5, 1), 2);
        due("greatest", x.copies(10, 5, 2), 20);
        tell(x, 0, "delay took-1 when took>1;delay 7;");
        due("round by seven, each one in turn", x.copies(7, 5, 0), 15);
        due("how far", x.copies(7, 5, 1), 14);
        tell(x, 0, "delay long+kisses+stop;");
        due("that long", x.copies(7, 42, 2), 42);
        tell(x, 0, "delay 10*cross+hour;");
        x.set(1, 0, 5);
        x.set(1, 1, 6);
        x.set(0, 0, 180);
        due("cross and hour as now", x.copies(1, 1, 2), 63);
        due("each his own", x.copies(1, 1, 0), 3);
        due("took as told, not as it is", with(0, "delay took;").copies(0, 1, 2), 1);
    }

    // ---- promises 18 to 20 ----

    private static void sure() {
        ThreeDots x = with(3, "sign easy 100 cross 300;sign easy 500 cross 400;sign easy 999 cross 1;");
        due("p -1", x.sure(-1, 0, 0), NONE);
        due("p 1001", x.sure(1001, 0, 0), NONE);
        due("no signs", x.sure(123, 0, 0), 123000);
        due("shown", x.sure(500, 1, 0), 750000);
        due("not", x.sure(500, 0, 2), 545454);
        due("both, in their order", x.sure(500, 1, 2), 782608);
        // By 1 alone: 1000000 * 500000 * 1 / (500000 * 1000) = 1000.
        due("hardly", x.sure(500, 4, 0), 1000);
        due("all", x.sure(500, 5, 2), (int) (1000000L * 782608 / (782608 + 217392L * 999)));
        due("0 stays", x.sure(0, 3, 4), 0);
        due("1000 stays", x.sure(1000, 7, 0), 1000000);
        due("in both", x.sure(500, 1, 1), NONE);
        due("in both", x.sure(500, 3, 6), NONE);
        due("no such sign", x.sure(500, 8, 0), NONE);
        due("no such sign", x.sure(500, 0, 8), NONE);
        due("no such set", x.sure(500, -1, 0), NONE);
        due("no such set", x.sure(500, 0, DEEP), NONE);
        due("without habits", new ThreeDots().sure(500, 1, 0), NONE);
        ThreeDots all = with(3, "sign easy 5 cross 6;".repeat(8));
        due("eight", all.sure(500, 255, 0) > 500000, true);
        due("nine", all.sure(500, 256, 0), NONE);
    }

    private static void needs() {
        ThreeDots x = with(3, "sign easy 100 cross 300;sign easy 500 cross 400;sign easy 900 cross 910;"
            + "sign easy 500 cross 500;");
        due("p -1", x.needs(-1, 0), NONE);
        due("p 1001", x.needs(1001, 0), NONE);
        due("sign -1", x.needs(100, -1), NONE);
        due("sign 4", x.needs(100, 4), NONE);
        due("none needed", x.needs(500, 1), 0);
        due("two", x.needs(100, 0), 2);
        due("one", x.needs(250, 0), 1);
        due("one less than that", x.needs(249, 0), 2);
        due("never", x.needs(499, 1), NONE);
        due("never", x.needs(499, 3), NONE);
        due("never from 0", x.needs(0, 0), NONE);
        int q = 343000;
        int times = 0;
        while (q < 500000) {
            q = (int) (1000000L * q * 910 / (q * 910L + (1000000L - q) * 900));
            times++;
        }
        due("many", x.needs(343, 2), times <= 60 ? times : NONE);
        due("around 60", times > 50, true);
        due("not by 60", x.needs(320, 2), NONE);
    }

    private static void waits() {
        due("without signs", new ThreeDots().waits(500), NONE);
        ThreeDots x = with(3, "sign easy 500 cross 500;sign easy 400 cross 600;sign easy 600 cross 400;"
            + "sign easy 500 cross 600;");
        due("p -1", x.waits(-1), NONE);
        due("p 1001", x.waits(1001), NONE);
        due("farthest, the least", x.waits(500), 1);
        due("none is apart: the least", x.waits(0), 0);
        due("none is apart: the least", x.waits(1000), 0);
        due("either way", with(3, "sign easy 500 cross 501;sign easy 900 cross 100;").waits(500), 1);
    }

    // ---- promises 21 to 23 ----

    /** 0 says three, 1 answers the second; the answer is not read. */
    private static ThreeDots answered() {
        ThreeDots x = new ThreeDots();
        tell(x, 0, "go 1000 when kisses=4;go 0;delay 2;kiss 7;");
        x.say(0, 20, 1, false);
        x.say(0, 30, 4, false);
        x.say(0, 10, 2, false);
        x.minutes(4);
        return x;
    }

    private static void which() {
        ThreeDots x = answered();
        due("the answer", x.message(3, 6), 1);
        due("as much: the latest", x.which(1), 2);
        due("to 0: the answer", x.which(0), 3);
        due("one 2", x.which(2), NONE);
        due("one -1", x.which(-1), NONE);
        due("the answer goes back", x.takeBack(3), true);
        due("then what it answered waits", x.which(1), 1);
        due("nothing to 0", x.which(0), NONE);
        x = new ThreeDots();
        due("none", x.which(0), NONE);
        x.say(0, 11, 0, false);
        x.say(0, 1, 1, false);
        x.say(0, 99, 9, false);
        x.takeBack(2);
        due("kisses count ten, back not", x.which(1), 1);
        x.say(0, 12, 0, false);
        due("most", x.which(1), 3);
        due("his own don't count", x.which(0), NONE);
    }

    private static void drift() {
        ThreeDots x = new ThreeDots();
        due("none", x.drift(0, 0), 0);
        due("none", x.drift(1, 1), 0);
        int[] kisses = {5, 9, 4, 4, 6, 3, 8, 2};
        for (int k : kisses) {
            x.say(0, 5, k, false);
            x.say(1, 5, 9 - k, false);
        }
        // 9 6 3 2 (or 5 4 3 2): four; rises 5-9, 4-6, 3-8: three; falls 9-4, 6-3, 8-2: three.
        due("row", x.drift(0, 0), 4);
        due("rises less falls", x.drift(0, 1), 0);
        // 4 0 5 5 3 6 1 7: 5 3 1.
        due("row of 1", x.drift(1, 0), 3);
        x.say(0, 5, 9, false);
        due("one more", x.drift(0, 1), 1);
        x.takeBack(2);
        // 5 4 4 6 3 8 2 9: 5 4 3 2; rises 4-6, 3-8, 2-9; falls 5-4, 6-3, 8-2.
        due("back: left out", x.drift(0, 1), 0);
        due("row", x.drift(0, 0), 4);
        due("one 2", x.drift(2, 0), -100);
        due("one -1", x.drift(-1, 0), -100);
        due("what 2", x.drift(0, 2), -100);
        due("what -1", x.drift(0, -1), -100);
        x = new ThreeDots();
        x.say(1, 5, 3, false);
        x.say(1, 5, 3, false);
        due("the same is not less", x.drift(1, 0) * 10 + x.drift(1, 1), 10);
        x.say(1, 5, 2, false);
        due("fewer", x.drift(1, 1), -1);
    }

    private static void pauses() {
        ThreeDots x = answered();
        due("sum of 1", x.pauses(1, 0), 3);
        due("greatest", x.pauses(1, 1), 3);
        due("two wait for 1", x.pauses(1, 2), 2);
        due("0 answered none", x.pauses(0, 0) + x.pauses(0, 1), 0);
        due("one waits for 0", x.pauses(0, 2), 1);
        x.takeBack(3);
        due("an answer that is back is none", x.pauses(1, 0) + x.pauses(1, 1), 0);
        due("three wait", x.pauses(1, 2), 3);
        due("none for 0", x.pauses(0, 2), 0);
        due("one 2", x.pauses(2, 0), NONE);
        due("one -1", x.pauses(-1, 0), NONE);
        due("what 3", x.pauses(0, 3), NONE);
        due("what -1", x.pauses(0, -1), NONE);
        x = with(0, "go 1000;delay long;lasts 1;");
        x.say(0, 9, 0, false);
        x.say(0, 4, 0, false);
        x.minutes(11);
        // 1 answers at 5 and at 10, and at 9 what 0 answered at 7.
        due("sum", x.pauses(1, 0), 17);
        due("greatest", x.pauses(1, 1), 10);
        due("of 0", x.pauses(0, 0), 2);
    }

    // ---- promises 24 and 25 ----

    private static void timeAndFits() {
        ThreeDots x = new ThreeDots();
        due("-2", x.time(-2), NONE);
        due("1440", x.time(1440), NONE);
        due("far", x.time(FAR), NONE);
        due("none told", x.fits(0), 1785);
        due("longest", x.fits(1), 60);
        due("first", x.fits(2), 0);
        due("what 3", x.fits(3), NONE);
        due("what -1", x.fits(-1), NONE);
        due("0", x.time(0), 1);
        // Only a first time of 0 is not behind 0.
        due("each of 10 .. 60", x.fits(0), 51);
        due("none", x.time(NONE), 0);
        due("1439", x.time(1439), 1);
        due("none", x.time(NONE), 0);
        due("time", x.time(5), 1);
        due("time", x.time(25), 2);
        due("time", x.time(46), 3);
        // Each 10 from 5; each 20 from 5; each 21 from 4.
        due("fits", x.fits(0), 3);
        due("longest", x.fits(1), 21);
        due("its first", x.fits(2), 4);
        due("time", x.time(8), 4);
        due("none fits", x.fits(0), 0);
        due("none fits", x.fits(1), NONE);
        due("none fits", x.fits(2), NONE);
        x.time(NONE);
        x.time(59);
        due("the longest may begin late", x.fits(1) * 100 + x.fits(2), 6058);
        x.time(NONE);
        for (int i = 1; i <= 10; i++) {
            due("time " + i, x.time(100), i);
        }
        due("there are ten", x.time(100), NONE);
        due("ten", x.look(9), 10);
        // Of each 10 .. 60 the rests of 100 and of 99.
        due("two of each", x.fits(0), 102);
        due("of 60: 39 or 40", x.fits(2), 39);
        due("none again", x.time(NONE), 0);
        due("none told", x.fits(0), 1785);
    }

    // ---- promise 26 ----

    private static void game() {
        ThreeDots x = new ThreeDots();
        due("nothing", x.game(0), NONE);
        x.say(0, 8, 2, false);
        due("8 by 1 .. 3: lost", x.game(0), NONE);
        x.say(1, 7, 1, false);
        // 8 modulo 4 and 7 modulo 3: 0 and 1. From the first 3 lead to 5: 1 and 1.
        due("message", x.game(0), 0);
        due("how many", x.game(1), 3);
        due("what 2", x.game(2), NONE);
        due("what -1", x.game(-1), NONE);
        x.takeBack(0);
        due("back: no heap", x.game(0) * 10 + x.game(1), 11);
        x.minutes(2);
        due("read: no heap", x.game(0), NONE);
        x = new ThreeDots();
        x.say(0, 1, 0, false);
        x.say(0, 3, 9, false);
        // 1 and 3: only 2 from the second lead to 1 and 1.
        due("message", x.game(0), 1);
        due("how many", x.game(1), 2);
        x = new ThreeDots();
        x.say(0, 2, 9, false);
        due("not more than there are", x.game(1), 2);
    }

    // ---- promises 27 and 28 ----

    private static void tableAndRests() {
        ThreeDots x = new ThreeDots();
        due("nothing told", x.rests(), 15);
        due("k -1", x.table(-1, 0, 0), false);
        due("k 4", x.table(4, 0, 0), false);
        due("a -1", x.table(0, -1, 0), false);
        due("a 100", x.table(0, 100, 0), false);
        due("b -1", x.table(0, 0, -1), false);
        due("b 100", x.table(0, 0, 100), false);
        due("still", x.rests(), 15);
        x.table(0, 5, 5);
        x.table(1, 9, 1);
        x.table(2, 1, 9);
        x.table(3, 3, 3);
        due("one rest", x.rests(), 8);
        due("told anew", x.table(0, 1, 1), true);
        due("the same cost: he stays", x.rests(), 9);
        x.table(0, 99, 0);
        x.table(1, 0, 99);
        x.table(2, 0, 99);
        x.table(3, 99, 0);
        due("no rest", x.rests(), 0);
        // 0 alone moves between 1 and 3, 1 alone between 2 and 3.
        x.table(0, 9, 9);
        x.table(1, 5, 0);
        x.table(2, 0, 5);
        x.table(3, 4, 4);
        due("3: who changes alone pays more", x.rests(), 8);
        x.table(3, 6, 4);
        due("then 0 would leave 3", x.rests(), 2);
    }

    // ---- promise 29 ----

    private static void deletes() {
        ThreeDots x = with(0, "hurt 10-long;go 0;");
        x.say(0, 8, 0, false);
        x.say(1, 1, 0, false);
        x.say(0, 12, 0, false);
        x.say(0, 9, 0, false);
        x.say(0, 10, 0, false);
        x.say(0, 1, 0, false);
        List<Integer> before = seen(x);
        int undone = x.look(10);
        // Of 0: hurts 2, -2, 1, 0 and, the fifth, 9: without the first and the third 10 - 2 + 9.
        due("cross", x.deletes(0, 5, 0), 17);
        due("set: 0 hurt makes no difference, fewest", x.deletes(0, 5, 1), 5);
        due("nothing is read in a minute", x.deletes(0, 1, 0) * 100 + x.deletes(0, 1, 1), 1000);
        due("of 1", x.deletes(1, 5, 1), 1);
        due("cross of 0", x.deletes(1, 5, 0), 10);
        same("nothing stays", seen(x), before);
        due("nor to undo", x.look(10), undone);
        due("one 2", x.deletes(2, 5, 0), NONE);
        due("one -1", x.deletes(-1, 5, 0), NONE);
        due("n 0", x.deletes(0, 0, 0), NONE);
        due("n 301", x.deletes(0, 301, 0), NONE);
        due("n 300", x.deletes(0, 300, 0) != NONE, true);
        due("what 2", x.deletes(0, 5, 2), NONE);
        due("what -1", x.deletes(0, 5, -1), NONE);
        // Either of two alone does it: the least set.
        x = with(0, "hurt 20 when many>0 and cross>25;hurt 10;go 0;");
        x.set(1, 1, 0);
        x.takeBack(x.say(0, 5, 0, false));
        x.say(0, 5, 0, false);
        x.say(0, 5, 0, false);
        due("both", x.deletes(0, 5, 1), 3);
        x = with(0, "hurt 0 when cross<10;hurt 0-9 when cross>19;hurt 5;go 0;");
        x.say(0, 5, 0, false);
        x.say(0, 6, 0, false);
        x.say(0, 6, 0, false);
        // 10, 15, 20, then -9 with none back: 20 has no third; with all three back it is 10.
        due("all back", x.deletes(0, 5, 1), 7);
    }

    // ---- promise 30 ----

    private static void thread() {
        ThreeDots x = new ThreeDots();
        due("none", x.thread(0), NONE);
        due("none", x.thread(1), NONE);
        x.say(0, 5, 0, false);
        due("no kisses", x.thread(0), 0);
        due("the only one", x.thread(1), 0);
        x.takeBack(0);
        due("back", x.thread(0), NONE);
        due("what 2", x.thread(2), NONE);
        due("what -1", x.thread(-1), NONE);
        x = with(0, "go 1000 when kisses<4;go 0;delay 1;kiss kisses+1;");
        x.say(0, 5, 9, false);
        x.say(0, 5, 2, false);
        x.say(0, 5, 3, false);
        x.minutes(10);
        // 9; 2 3 4; 3 4: the second row and the first have 9: the least.
        due("rows", x.look(1), 6);
        due("most", x.thread(0), 9);
        due("the least", x.thread(1), 0);
        x.say(0, 5, 1, false);
        x.minutes(12);
        // 1 2 3 4.
        due("most", x.thread(0), 10);
        due("its first", x.thread(1), 6);
        x.undo();
        x = with(0, "go 1000;delay 1;kiss 5;");
        x.say(0, 5, 0, false);
        x.minutes(3);
        due("an answer", x.thread(0) * 10 + x.thread(1), 50);
        x.takeBack(1);
        due("that is back", x.thread(0) * 10 + x.thread(1), 0);
    }

    // ---- promise 31 ----

    private static void crossed() {
        ThreeDots x = with(0, "go 0;");
        x.say(0, 5, 0, false);
        due("one alone", x.crossed(), 0);
        x.say(0, 5, 0, false);
        due("of the same one", x.crossed(), 0);
        x.say(1, 5, 0, false);
        due("in the same minute", x.crossed(), 2);
        x.minutes(1);
        x.say(1, 5, 0, false);
        due("not read yet", x.crossed(), 4);
        x.minutes(1);
        // All of minute 0 were read in minute 1, in which the last one was sent: not ahead of it.
        due("read in that minute", x.crossed(), 4);
        x.say(1, 5, 0, false);
        x.say(0, 5, 0, false);
        // New couples: the last two in one minute; 0's of minute 0 were read ahead; 1's of minute 1 was not read.
        due("read ahead", x.crossed(), 6);
        x.takeBack(4);
        due("back", x.crossed(), 5);
    }

    // ---- promise 32 ----

    private static void awake() {
        ThreeDots x = with(1, "one 0 from 2 for 3 sleep;one 1 from 8 for 1 busy;one 1 from 9 for 2 bus;");
        due("n 0", x.awake(0, 0), NONE);
        due("n 49", x.awake(49, 0), NONE);
        due("what 3", x.awake(5, 3), NONE);
        due("what -1", x.awake(5, -1), NONE);
        due("a day", x.awake(24, 0), 20);
        due("first", x.awake(24, 1), 0);
        due("longest", x.awake(24, 2), 15);
        due("two days", x.awake(48, 0), 40);
        due("longest", x.awake(48, 2), 17);
        x.set(0, 0, 2 * 60 + 59);
        due("from hour 2", x.awake(3, 0), 0);
        due("none", x.awake(3, 1), NONE);
        due("none", x.awake(3, 2), 0);
        due("the fourth", x.awake(4, 1), 3);
        due("one", x.awake(4, 2), 1);
        due("round the clock", x.awake(24, 0), 20);
    }

    // ---- promise 33 ----

    private static void mirrors() {
        ThreeDots x = new ThreeDots();
        due("l 0", x.mirrors(0, 0), NONE);
        due("l 100", x.mirrors(100, 0), NONE);
        due("what 2", x.mirrors(5, 2), NONE);
        due("what -1", x.mirrors(5, -1), NONE);
        // 99, 50, 26, 14, 8, 5, 3, 2, 2.
        due("as long", x.mirrors(99, 0), 8);
        due("how long", x.mirrors(99, 1), 2);
        due("1 is answered by 1", x.mirrors(1, 0), 1);
        tell(x, 0, "lasts long+1 when one=0;lasts long-1;");
        due("never", x.mirrors(5, 0), NONE);
        due("the 60th", x.mirrors(5, 1), 5);
        due("99 at most: the first", x.mirrors(99, 0), 1);
        tell(x, 0, "lasts long+1;");
        due("the 60th", x.mirrors(39, 0) * 100 + x.mirrors(39, 1), -1);
        due("just the 60th", x.mirrors(40, 0) * 100 + x.mirrors(40, 1), 6099);
        tell(x, 0, "lasts took+cross+kisses+stop;");
        x.set(2, 0, 3);
        x.set(2, 1, 4);
        due("took and cross as now", x.mirrors(5, 1), 14);
        x.set(2, 1, 3);
        due("the second is as long", x.mirrors(5, 0) * 100 + x.mirrors(5, 1), 213);
    }

    // ---- promise 34 ----

    private static void ease() {
        ThreeDots x = new ThreeDots();
        tell(x, 0, "go 1000;delay 5;hurt 10 when one=0 and took<20;hurt 0-5 when one=0;");
        x.say(0, 5, 0, false);
        List<Integer> before = seen(x);
        // Slow answers of 1 ease 0: the first delay from which took is 20 at least is 32 (behind the reading).
        due("delay", x.ease(1, 60, 0), 32);
        due("cross", x.ease(1, 60, 1), 15);
        due("too soon for any but a hurt: the least that waits", x.ease(1, 10, 0), 8);
        due("cross then", x.ease(1, 10, 1), 20);
        same("nothing stays", seen(x), before);
        due("one 2", x.ease(2, 5, 0), NONE);
        due("one -1", x.ease(-1, 5, 0), NONE);
        due("n 0", x.ease(0, 0, 0), NONE);
        due("n 301", x.ease(0, 301, 0), NONE);
        due("n 300", x.ease(0, 300, 0) != NONE, true);
        due("what 2", x.ease(0, 5, 2), NONE);
        due("what -1", x.ease(0, 5, -1), NONE);
        // What is read already keeps its delay.
        x.minutes(2);
        due("due", x.message(0, 8), 6);
        due("from now on only", x.ease(1, 8, 0), 1);
        due("its hurt comes", x.ease(1, 8, 1), 30);
        due("goes that delay", x.goes(5, 0), 2);
    }

    // ---- promise 35 ----

    private static void split() {
        ThreeDots x = new ThreeDots();
        due("none", x.split(0), NONE);
        tell(x, 0, "go 1000 when kisses>0;go 0;delay long-1;kiss 0;lasts 1;");
        x.say(0, 10, 1, false);
        x.minutes(11);
        due("one alone", x.split(0), NONE);
        due("one alone", x.split(1), NONE);
        x.set(0, 0, 0);
        // Pauses of 1: 10, 12, 50, 55; of 0: 11, 52.
        int[] longs = {10, 12, 50, 55};
        for (int l : longs) {
            x.say(0, l, 1, false);
        }
        x.say(1, 11, 1, false);
        x.say(1, 52, 1, false);
        x.minutes(60);
        due("answers", x.look(1), 12);
        due("parted behind 12", x.split(0), 13);
        due("of 0 below", x.split(1), 1);
        due("what 2", x.split(2), NONE);
        due("what -1", x.split(-1), NONE);
        x.set(0, 0, 0);
        x.say(0, 9, 1, false);
        x.say(1, 9, 1, false);
        x.minutes(10);
        due("all alike: the least number", x.split(0), 1);
        due("none below", x.split(1), 0);
        due("one answer goes back", x.takeBack(3), true);
        due("fewer than two", x.split(0), NONE);
        x.set(0, 0, 0);
        int[] more = {10, 20, 30, 40};
        for (int l : more) {
            x.say(1, l, 1, false);
        }
        x.minutes(45);
        // Behind 10: 20; behind 20: 20; behind 30: 20.
        due("of several the least", x.split(0), 11);
        due("of 0 below", x.split(1), 1);
    }

    // ---- promise 36 ----

    private static void undo() {
        ThreeDots x = with(0, "go 500;delay 2;hurt 3;");
        List<List<Integer>> stands = new ArrayList<>();
        stands.add(seen(x));
        x.say(0, 5, 1, true);
        stands.add(seen(x));
        x.say(1, 6, 2, false);
        stands.add(seen(x));
        x.takeBack(1);
        stands.add(seen(x));
        x.minutes(1);
        stands.add(seen(x));
        x.minutes(1);
        stands.add(seen(x));
        x.ring();
        due("six", x.look(10), 6);
        for (int i = 5; i >= 0; i--) {
            due("undo", x.undo(), true);
            same("as it was " + i, seen(x), stands.get(i));
            due("left", x.look(10), i);
        }
        due("no more", x.undo(), false);
        x.state(12345);
        x.say(0, 5, 1, true);
        stands.clear();
        ThreeDots y = with(0, "go 500;delay 2;hurt 3;");
        y.state(12345);
        y.say(0, 5, 1, true);
        x.minutes(30);
        y.minutes(24);
        for (int i = 0; i < 6; i++) {
            due("undo a minute", x.undo(), true);
        }
        same("minute by minute", seen(x), seen(y));
        due("six are kept", x.undo(), false);
        x.minutes(3);
        y.minutes(3);
        same("goes on alike", seen(x), seen(y));
        due("three", x.look(10), 3);
        x.say(9, 9, 9, false);
        x.takeBack(99);
        x.minutes(0);
        due("what isn't done isn't kept", x.look(10), 3);
    }

    private static void undoForgotten() {
        String[] kept = {"law", "law fault", "habits", "hours fault", "no text", "time", "no time", "table",
            "image taken", "feed", "end", "bad set", "no image"};
        for (int i = 0; i < kept.length; i++) {
            ThreeDots x = new ThreeDots();
            x.say(0, 5, 1, true);
            x.minutes(1);
            switch (i) {
                case 0 -> tell(x, 0, "go 1;");
                case 1 -> tell(x, 0, "go;");
                case 2 -> tell(x, 3, "sign easy 1 cross 2;");
                case 3 -> tell(x, 1, "one;");
                case 4 -> tell(x, 9, "one;");
                case 5 -> x.time(5);
                case 6 -> x.time(NONE);
                case 7 -> x.table(1, 2, 3);
                case 8 -> x.image(true);
                case 9 -> x.feed(0, 0, 0, 0, 0);
                case 10 -> x.end(0);
                case 11 -> x.set(1, 0, 100);
                default -> x.image(false);
            }
            due(kept[i] + " keeps", x.look(10), 2);
            due(kept[i] + " keeps", x.undo() && x.look(0) == 0 && x.undo() && x.look(1) == 0, true);
        }
        due("what was told stays told", keepsToldLaw(), 1);
        String[] gone = {"state", "minute", "cross", "took", "ticks", "hours", "sayings", "image"};
        for (int i = 0; i < gone.length; i++) {
            ThreeDots x = new ThreeDots();
            x.image(true);
            x.say(0, 5, 1, true);
            x.minutes(1);
            switch (i) {
                case 0 -> x.state(0);
                case 1 -> x.set(0, 0, 1);
                case 2 -> x.set(1, 0, 10);
                case 3 -> x.set(2, 0, 0);
                case 4 -> x.set(3, 0, 1);
                case 5 -> tell(x, 1, "");
                case 6 -> tell(x, 2, "");
                default -> x.image(false);
            }
            due(gone[i] + " forgets", x.look(10), 0);
            due(gone[i] + " forgets", x.undo(), false);
        }
    }

    private static void undoRows() {
        // Rows of messages that are written over after undoing must be brought back whole.
        ThreeDots x = with(0, "go 1000;delay 1;hurt 0;");
        x.set(1, 1, 60);
        x.say(0, 9, 9, true);
        x.minutes(4);
        due("an answer with a stop", x.message(1, 5) * 10 + x.message(1, 6), 10);
        due("took", x.of(0, 1), 2);
        List<Integer> before = seen(x);
        x.image(true);
        x.set(0, 0, 0);
        x.say(1, 1, 1, false);
        x.say(1, 1, 1, true);
        x.say(0, 1, 1, false);
        x.image(false);
        same("image brings rows back", seen(x), before);
        due("took", x.of(0, 1), 2);
        for (int i = 0; i < 4; i++) {
            x.minutes(1);
        }
        due("took changes", x.of(1, 1), 2);
        due("undone", x.undo() && x.undo() && x.undo() && x.undo(), true);
        same("undo brings rows back", seen(x), before);
        x.minutes(4);
        due("answers are awaited again", x.look(1) > 2, true);
        x.set(3, 0, 0);
        x.ring();
        x.undo();
        due("ticks stay", x.of(0, 2), 0);
        tell(x, 0, "go 400+100*ticks;");
        x.set(0, 0, 0);
        x.say(0, 5, 0, false);
        x.say(1, 5, 0, false);
        due("ticks in thought", x.goes(5, 0), 3);
    }

    private static void edges() {
        ThreeDots x = with(0, "go 1000;delay 1;");
        x.say(0, 5, 0, false);
        due("goes one minute", x.goes(1, 0), 1);
        due("copies: l 100", x.copies(5, 100, 2), NONE);
        due("copies: what 3", x.copies(1, 1, 3), NONE);
        due("thread: what 2", x.thread(2), NONE);
        due("awake one hour", x.awake(1, 0) * 100 + x.awake(1, 1) * 10 + x.awake(1, 2), 101);
        due("a cost of 0", x.table(0, 0, 0), true);
        due("costs of 0 and 99", x.table(0, 0, 99) && x.table(0, 99, 0), true);
        ThreeDots y = with(3, "sign easy 100 cross 300;sign easy 900 cross 910;sign easy 500 cross 501;");
        due("needs: the last sign", y.needs(499, 2), 3);
        due("needs: no such sign", y.needs(999, 3), NONE);
        due("needs: p 0", y.needs(0, 2), NONE);
        int least = 1000;
        for (int p = 499; p > 0 && y.needs(p, 1) != NONE; p--) {
            least = y.needs(p, 1);
        }
        due("needs up to sixty", least >= 59 && least <= 60, true);
        due("exactly sixty", needsSixty(), 60);
        x.say(0, 5, 0, false);
        x.goes(5, 0);
        due("said, not thought", x.say(0, 5, 0, false) * 10 + x.look(1), 23);
        x.goes(5, 0);
        due("taken back, not thought", x.takeBack(2) && x.message(2, 7) == 1, true);
        x.set(1, 0, 90);
        x.goes(5, 0);
        due("rung, not thought", x.ring() * 100 + x.of(0, 0), 7070);
        x.goes(5, 0);
        x.minutes(7);
        due("gone by, not thought", x.look(0), 7);
        x = new ThreeDots();
        x.set(1, 0, 50);
        x.set(1, 1, 30);
        due("ring both", x.ring(), 40);
        due("ring 1", x.of(1, 0), 10);
        x = new ThreeDots();
        x.say(0, 20, 0, false);
        x.say(0, 11, 1, false);
        due("which: 21 and 20", x.which(1), 1);
        x.say(0, 22, 0, false);
        due("which: 22 and 21", x.which(1), 2);
        due("drift 0 after another", x.drift(0, 0), 2);
        x.say(0, 12, 1, false);
        x.say(0, 22, 0, false);
        due("which: 22 and 22", x.which(1), 4);
        due("drift again", x.drift(0, 0), 2);
        x = new ThreeDots();
        x.say(0, 5, 0, false);
        due("drift: no kisses", x.drift(0, 0), 1);
        x = with(2, "at 0 one 0 deletes;");
        x.say(0, 5, 0, false);
        x.minutes(1);
        due("the first can be the latest", x.message(0, 7), 1);
        x = with(2, "at 0 one 0 deletes;");
        x.say(0, 5, 0, false);
        x.say(1, 5, 0, false);
        due("whose: only the first is left", with(0, "").goes(1, 1), NONE);
        due("whose: of 1", x.goes(1, 1), 1);
        x.takeBack(1);
        x.say(1, 5, 0, false);
        x.takeBack(2);
        tell(x, 2, "");
        due("whose: the first of all", x.goes(1, 1), 0);
    }

    /** A state whose next draw of 1000 is d. */
    private static int stateFor(int d) {
        for (int s = 0; s < 1000000; s++) {
            if (((s * 1664525 + 1013904223) >>> 8) % 1000 == d) {
                return s;
            }
        }
        return 0;
    }

    /** The most that is ever needed of a sign that says little. */
    private static int needsSixty() {
        int most = NONE;
        for (int easy = 900; easy < 999; easy++) {
            ThreeDots x = with(3, "sign easy " + easy + " cross 999;");
            for (int p = 1; p < 500; p++) {
                most = Math.max(most, x.needs(p, 0));
            }
        }
        return most;
    }

    private static void drawEdges() {
        int[][] cases = {{0, 0, 0}, {0, 1, 1}, {1, 1, 0}, {499, 500, 1}, {500, 500, 0}, {501, 500, 0}, {999, 1000, 1},
            {999, 999, 0}, {998, 999, 1}};
        for (int[] c : cases) {
            ThreeDots x = with(0, "go " + c[1] + ";delay 1;");
            x.state(stateFor(c[0]));
            x.say(0, 5, 0, false);
            x.minutes(2);
            due("draw " + c[0] + " with go " + c[1], x.message(0, 8) == 2, c[2] == 1);
        }
    }

    private static void readingHours() {
        ThreeDots x = new ThreeDots();
        tell(x, 0, "go 0;");
        tell(x, 1, "one 0 from 0 for 1 sleep;one 1 from 1 for 1 sleep;one 0 from 2 for 1 busy;one 1 from 2 for 1 busy;");
        x.say(0, 5, 0, false);
        x.say(1, 5, 0, false);
        x.minutes(2);
        due("1 reads", x.message(0, 2), 1);
        due("0 sleeps", x.message(1, 2), NONE);
        x.set(0, 0, 60);
        x.say(0, 5, 0, false);
        x.say(1, 5, 0, false);
        x.minutes(2);
        due("1 sleeps", x.message(0, 2), NONE);
        due("0 reads", x.message(1, 2), 61);
        x.set(0, 0, 120);
        x.say(0, 5, 0, false);
        x.say(1, 5, 0, false);
        x.minutes(2);
        due("both busy", x.message(0, 2) + x.message(1, 2), -2);
        // The answer is by what is so when it is due, busy or not.
        tell(x, 0, "go 1000;delay 70;lasts hour*10+took;kiss bus;");
        tell(x, 1, "one 1 from 1 for 1 bus;one 1 from 2 for 1 sleep;");
        x.set(0, 0, 55);
        x.set(2, 1, 7);
        x.say(0, 5, 0, false);
        x.minutes(10);
        due("due", x.message(0, 8), 126);
        x.minutes(62);
        due("asleep he answers", x.message(1, 1), 126);
        due("by hour and took then", x.message(1, 3), 27);
        due("no bus", x.message(1, 4), 0);
    }

    private static void longTexts() {
        StringBuilder s = new StringBuilder("go 0");
        while (s.length() < 397) {
            s.append("+1");
        }
        s.append(" ;");
        good(0, s.toString(), 1);
        due("400 bytes", s.length(), 400);
        ThreeDots x = with(0, s.toString());
        x.say(0, 1, 0, false);
        due("a long sum", x.asks(0, 4), 197);
        faulty(0, ";".repeat(400), 1, 0);
        good(0, "go 1;" + "\n".repeat(394) + "", 1);
        faulty(0, "go 1;" + " ".repeat(394) + "x", 1, 399);
        faulty(0, "go " + "1".repeat(397), 1, 3);
        faulty(0, "g".repeat(400), 1, 0);
        faulty(0, "go 1" + "+1".repeat(198), 1, 400);
        faulty(0, "go1;".repeat(16) + " zgo1;", 1, 65);
        faulty(0, "go 1 Z", 1, 5);
        faulty(0, "Az go 1;", 1, 0);
        // A line of the text told before must not shine through.
        x = with(1, "one 0 from 0 for 24 bus;one 1 from 0 for 24 busy;");
        due("told anew", tell(x, 1, "one 0 from 0 for 24 sleep;"), 1);
        due("1 is free", x.of(1, 3) * 10 + x.of(0, 3), 3);
        due("2 lines, then none", tell(x, 3, "sign easy 1 cross 2;sign easy 1 cross 2;") * 10 + tell(x, 3, ""), 20);
        due("no signs", x.waits(5), NONE);
    }

    private static void deletesTies() {
        // Hurt only by the message that is read as the second one: without either of two it never comes.
        ThreeDots x = with(0, "hurt 0-1 when cross=20;hurt 10 when cross=10;hurt 10 when cross=19;go 0;");
        x.say(0, 5, 0, false);
        x.say(0, 5, 0, false);
        x.say(0, 5, 0, false);
        // All: 20, 19, 29. Without one: 20, 19. Without two: 20. Without all: 10.
        due("all", x.deletes(0, 9, 0) * 10 + x.deletes(0, 9, 1), 107);
        x = with(0, "hurt 0-1 when cross=11;hurt 1;go 0;");
        x.say(0, 5, 0, false);
        x.say(0, 5, 0, false);
        x.say(0, 5, 0, false);
        // 11, 10, 11: without any one of them it is 10; the least set of the fewest.
        due("one of three", x.deletes(0, 9, 0) * 10 + x.deletes(0, 9, 1), 101);
        x.say(1, 5, 0, false);
        x.minutes(2);
        due("read: no choice", x.deletes(0, 9, 1), 0);
        due("cross stays", x.deletes(0, 9, 0), 11);
        x = with(0, "hurt long-50;go 0;");
        x.say(1, 99, 0, false);
        x.say(0, 60, 0, false);
        x.say(1, 51, 0, false);
        x.say(0, 40, 0, false);
        due("of 0: his own alone", x.deletes(0, 2, 0) * 10 + x.deletes(0, 2, 1), 1);
        due("of 1: his own alone", x.deletes(1, 2, 0) * 10 + x.deletes(1, 2, 1), 103);
        // What is taken back in thought is never read: the others still are.
        x = with(0, "hurt 3;go 0;");
        for (int i = 0; i < 6; i++) {
            x.say(0, 5, 0, false);
        }
        due("four of six", x.deletes(0, 2, 0) * 100 + x.deletes(0, 2, 1), 1615);
    }

    private static void easeEdges() {
        ThreeDots x = with(0, "go 1000;delay 5;hurt 10 when one=0;");
        x.say(0, 5, 0, false);
        due("one minute", x.ease(1, 1, 0) * 100 + x.ease(1, 1, 1), 120);
        // Only 256 is late enough for the answer not to be read within 200 minutes.
        due("256", x.ease(1, 200, 0), 256);
        due("cross", x.ease(1, 200, 1), 20);
        due("128 is enough for 100", x.ease(1, 100, 0), 128);
        due("his own pace ends with it", x.goes(8, 2), 20);
        due("the other one's pace does not help 0", x.ease(0, 200, 0) > 1, true);
        x = with(0, "go 499;delay 5;hurt 10 when one=0;");
        x.say(0, 5, 0, false);
        due("no answer in thought: any will do", x.ease(1, 200, 0), 1);
    }

    private static void splitEdges() {
        ThreeDots x = with(0, "go 1000 when kisses>0;go 0;delay long-1;kiss 0;lasts 1;");
        // Said later, answered earlier: answers do not come by the size of their pauses.
        x.say(0, 30, 1, false);
        x.say(1, 40, 1, false);
        x.minutes(20);
        x.say(1, 5, 1, false);
        x.minutes(10);
        x.say(0, 6, 1, false);
        x.say(1, 4, 1, false);
        x.minutes(40);
        // Pauses of 0: 40, 5, 4; of 1: 30, 6. Behind 6: 2 + 10.
        due("behind 6", x.split(0), 7);
        due("of 0 below", x.split(1), 2);
        x = new ThreeDots();
        tell(x, 0, "go 1000 when kisses>0;go 0;delay long;kiss 0;");
        tell(x, 1, "one 1 from 0 for 24 sleep;");
        x.say(0, 5, 1, false);
        x.minutes(10);
        x.say(1, 5, 1, false);
        x.minutes(10);
        for (int i = 0; i < 34; i++) {
            x.minutes(300);
        }
        x.say(0, 9, 1, false);
        x.say(0, 50, 1, false);
        tell(x, 1, "");
        x.minutes(60);
        due("a pause beyond", x.pauses(1, 1), 10225);
        // 6 (of 0), 10, 51, 10225: numbers end at 9999, so what is longer is never below.
        due("cut", x.split(0), 52);
        due("of 0 below", x.split(1), 1);
        due("at 9999", splitAfterSleep(8, 60), 9999);
        due("beyond 9999", splitAfterSleep(9, 60), 1);
        x = with(0, "go 1000 when kisses>0;go 0;delay long-1;kiss 0;lasts 1;");
        x.say(1, 10, 1, false);
        x.say(1, 11, 1, false);
        x.say(1, 11, 1, false);
        x.minutes(12);
        due("10, 11, 11", x.split(0) * 10 + x.split(1), 111);
    }

    /** The cut between two answers to what was read only at 9990, of so many minutes more each. */
    private static int splitAfterSleep(int first, int second) {
        ThreeDots x = new ThreeDots();
        tell(x, 0, "go 1000 when kisses>0;go 0;delay long;kiss 0;");
        tell(x, 1, "one 1 from 0 for 24 sleep;");
        x.say(0, first, 1, false);
        x.say(0, second, 1, false);
        for (int i = 0; i < 33; i++) {
            x.minutes(300);
        }
        x.minutes(90);
        tell(x, 1, "");
        x.minutes(70);
        due("pauses", x.pauses(1, 0), 2 * 9990 + first + second);
        return x.split(0);
    }

    private static int keepsToldLaw() {
        ThreeDots x = new ThreeDots();
        x.ring();
        tell(x, 0, "go 1;");
        x.undo();
        return x.look(5);
    }

    // ---- promise 37 ----

    private static void image() {
        ThreeDots x = new ThreeDots();
        due("none", x.image(false), false);
        fillUp(x);
        due("taken", x.image(true), true);
        List<Integer> then = seen(x);
        int sure = x.sure(400, 1, 0);
        int go = x.goes(200, 3);
        due("rests", x.rests(), 12);
        for (int times = 0; times < 3; times++) {
            x.undo();
            x.state(1);
            x.set(0, 0, 7);
            x.set(3, 0, 1);
            tell(x, 0, "go 0;hurt 50;");
            tell(x, 1, "one 0 from 0 for 24 bus;");
            tell(x, 2, "");
            tell(x, 3, "sign easy 9 cross 9;sign easy 9 cross 8;");
            x.time(NONE);
            x.time(times);
            x.table(1, 1, 9);
            x.table(3, 9, 9);
            x.say(1, 50, 5, true);
            x.ring();
            x.minutes(10);
            tell(x, 0, "go");
            x.feed(0, 0, 0, 0, 0);
            due("gone back", x.image(false), true);
            same("as it was", seen(x), then);
            due("habits", x.sure(400, 1, 0), sure);
            due("law, hours, sayings", x.goes(200, 3), go);
            due("nothing to undo", x.look(10), 0);
            due("undo", x.undo(), false);
            due("the fault stays", x.fault(0) * 10 + x.fault(1), 12);
            due("the tape stays", x.feed(0, 0, 0, 0, 0), 40);
        }
        x.minutes(3);
        List<Integer> later = seen(x);
        x.image(true);
        x.minutes(30);
        x.image(false);
        same("taken anew", seen(x), later);
    }

    private static void fillUp(ThreeDots x) {
        tell(x, 0, "go 800;delay 3;hurt stop*9;kiss kisses-1 when long>3;");
        tell(x, 1, "one 1 from 5 for 3 busy;");
        tell(x, 2, "at 12 one 1 says 8 kisses 8 stop;");
        tell(x, 3, "sign easy 300 cross 700;");
        x.time(77);
        x.time(97);
        x.table(0, 3, 4);
        x.table(1, 5, 1);
        x.set(1, 0, 66);
        x.set(3, 1, 0);
        x.state(99);
        x.say(0, 9, 6, true);
        x.minutes(15);
        x.say(1, 4, 4, false);
        x.say(0, 4, 4, false);
        x.takeBack(x.look(1) - 1);
    }

    // ---- promise 38 ----

    private static void look() {
        ThreeDots x = new ThreeDots();
        tell(x, 0, "go 1000;go 2;go 3;");
        tell(x, 1, "one 1 from 5 for 3 busy;one 1 from 5 for 3 busy;");
        tell(x, 2, "at 12 one 1 says 8 kisses 8;at 9999 one 0 deletes;at 1 one 0 deletes;at 1 one 0 deletes;");
        tell(x, 3, "sign easy 1 cross 1;".repeat(5));
        for (int i = 0; i < 6; i++) {
            x.time(i);
        }
        x.state(-3);
        x.set(0, 0, 1440 + 119);
        x.say(0, 1, 1, false);
        x.say(1, 1, 1, false);
        x.say(1, 1, 1, false);
        x.takeBack(0);
        int[] want = {1559, 3, 1, 4, -3, 3, 2, 4, 5, 6, 4};
        for (int w = 0; w < want.length; w++) {
            due("look(" + w + ")", x.look(w), want[w]);
        }
        x.minutes(1);
        due("hour", x.look(2), 2);
        due("what 11", x.look(11), NONE);
        due("what -1", x.look(-1), NONE);
        due("far", x.look(FAR), NONE);
        due("deep", x.look(DEEP), NONE);
    }
}
