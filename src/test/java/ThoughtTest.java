import java.util.ArrayList;
import java.util.List;

/**
 * The document's term 4, sentence by sentence: each that names an edge (of several the least, the latest, the
 * fewest; none; at most; as now) has a method of its own, with the sentence above it.
 */
public final class ThoughtTest extends Due {
    public static void main(String[] args) {
        nothingStays();
        noDraws();
        goesSoFar();
        goesWhose();
        goesFull();
        copiesByTurns();
        copiesComeRound();
        copiesWithinSixty();
        copiesAsNow();
        sureDownwards();
        sureSignBySign();
        needsZeroToSixty();
        waitsForTheFarthest();
        whichIsTheLatest();
        whichOfAnswered();
        driftRow();
        driftMoreLessFewer();
        pausesOfAnswers();
        fitsAreNotAhead();
        fitsOneMinuteBehind();
        fitsLongest();
        finishThoughts();
        finish();
    }

    private static void finishThoughts() {
        gameOfOneHeap();
        gameOfSeveral();
        restsOfTable();
        deletesFirstFour();
        deletesFewest();
        deletesNow();
        threadRows();
        threadLeast();
        crossedCouples();
        awakeHours();
        mirrorsAsLong();
        mirrorsAsNow();
        easeLeast();
        easeOnlyHis();
        easeFromNowOn();
        splitParts();
        splitMiddle();
        splitBounds();
        undoOneByOne();
        undoSixKept();
        undoForgotten();
        undoGoesOn();
        imageWhole();
        imageMoreThanOnce();
        imageLeavesTape();
    }

    /** Said by 0 with a kiss each and answered so many minutes later (2 at least) by 1; the last answer is unread. */
    private static ThreeDots pausesOf(int... pauses) {
        ThreeDots x = with(0, "go 1000 when kisses>0;go 0;delay long;kiss 0;hurt 0;");
        int longest = 0;
        for (int p : pauses) {
            x.say(0, p - 1, 1, false);
            longest = Math.max(longest, p);
        }
        x.minutes(longest + 1);
        return x;
    }

    // "IN THOUGHT (nothing of it stays ..)"
    private static void nothingStays() {
        ThreeDots x = with(0, "go 1000;delay 2;hurt 3;");
        tell(x, 2, "at 9 one 1 says 8 kisses 8;at 20 one 1 deletes;");
        x.say(0, 5, 0, true);
        x.say(1, 5, 0, true);
        x.minutes(5);
        x.say(0, 5, 0, true);
        List<Integer> before = seen(x);
        int undone = x.look(10);
        for (int w = 0; w < 4; w++) {
            x.goes(999, w);
            same("goes", seen(x), before);
            x.deletes(0, 300, w % 2);
            same("deletes", seen(x), before);
            x.ease(0, 300, w % 2);
            same("ease", seen(x), before);
            x.copies(5, 5, w % 3);
            x.mirrors(5, w % 2);
            same("copies, mirrors", seen(x), before);
        }
        due("nothing more to undo", x.look(10), undone);
        ThreeDots y = with(0, "go 1000;delay 2;hurt 3;");
        tell(y, 2, "at 9 one 1 says 8 kisses 8;at 20 one 1 deletes;");
        y.say(0, 5, 0, true);
        y.say(1, 5, 0, true);
        y.minutes(5);
        y.say(0, 5, 0, true);
        x.minutes(60);
        y.minutes(60);
        same("goes on as without a thought", seen(x), seen(y));
    }

    // "no DRAWS: it is answered, if go is 500 at least"
    private static void noDraws() {
        for (int go : new int[] {0, 499, 500, 501, 1000}) {
            for (int state : new int[] {0, 12345, -1}) {
                ThreeDots x = with(0, "go " + go + ";delay 1;");
                x.state(state);
                x.say(0, 5, 0, false);
                due("answered in thought with go " + go, x.goes(3, 0), go >= 500 ? 2 : 1);
                due("STATE as it was", x.look(4), state);
            }
        }
    }

    // "GOES for n (1 .. 999) MINUTES: how many MESSAGES then .. CROSS of each"
    private static void goesSoFar() {
        ThreeDots x = with(0, "go 1000;delay 995;hurt 1 when one=1;hurt 2;");
        x.set(1, 0, 0);
        x.set(1, 1, 0);
        x.say(0, 5, 0, false);
        due("one minute: not read", x.goes(1, 3), 0);
        due("two: read", x.goes(2, 3), 1);
        due("996: not answered", x.goes(996, 0), 1);
        due("997: answered", x.goes(997, 0), 2);
        due("not read", x.goes(997, 2), 0);
        due("998: read", x.goes(998, 2), 2);
        due("999", x.goes(999, 0) * 10 + x.goes(999, 3), 21);
    }

    // "whose is the last one that is not BACK"
    private static void goesWhose() {
        ThreeDots x = with(0, "go 0;");
        tell(x, 2, "at 2 one 1 says 5 kisses 0;at 3 one 1 deletes;at 3 one 0 deletes;");
        due("none: NONE", x.goes(2, 1), NONE);
        due("1's", x.goes(3, 1), 1);
        due("back: NONE", x.goes(4, 1), NONE);
        due("it is there all the same", x.goes(4, 0), 1);
        x.say(0, 5, 0, false);
        due("0's ahead of it", x.goes(2, 1), 0);
        due("then 1's", x.goes(3, 1), 1);
        due("0's again, as it is read", x.goes(4, 1), 0);
    }

    // "how many MESSAGES then": 60 at most
    private static void goesFull() {
        ThreeDots x = with(0, "go 1000;delay 1;hurt 1 when took>2;hurt 0;");
        for (int i = 0; i < 59; i++) {
            x.say(0, 5, 0, false);
        }
        due("60 at most", x.goes(999, 0), 60);
        due("the one that has room", x.goes(999, 1), 1);
        // TOOK of 0 is 2 by the one answer and stays: nothing hurts.
        due("no TOOK of what is left out", x.goes(999, 2), 10 - 1);
        due("as it goes", x.minutes(10) * 100 + x.of(0, 1), 102);
    }

    // "0 answers with delay by t, then 1 with delay by that, and so on"
    private static void copiesByTurns() {
        // From 4: 0 makes 8, 1 makes 7, 0 14, 1 13, 0 26: each has his own.
        ThreeDots x = with(0, "delay took*2 when one=0;delay took-1;");
        due("none comes round ahead of the bound", x.copies(4, 5, 2), 999);
        // 4, 8 7 14 13 26 25 50 49 98 97 194 193 386 385 770 769 999 998 999: the 19th is the 17th.
        due("the first that is", x.copies(4, 5, 0), 19);
        due("how many less", x.copies(4, 5, 1), 2);
        due("t 0: held to 1", with(0, "delay took;").copies(0, 5, 2), 1);
        due("t 999", with(0, "delay took;").copies(999, 5, 2), 999);
        due("0 begins", with(0, "delay 7 when one=0;delay 3;").copies(1, 5, 2), 7);
        due("both answer", with(0, "delay 3 when one=0;delay 7;").copies(1, 5, 2), 7);
    }

    // "the first answer by whose couple of ONE and delay is that of one ahead of it: its number (the first answer
    // is 1), how many less that one's is"
    private static void copiesComeRound() {
        ThreeDots x = with(0, "delay 5;");
        // 0 5, 1 5, 0 5: the delay alone is not enough.
        due("the third", x.copies(5, 5, 0), 3);
        due("two less", x.copies(5, 5, 1), 2);
        // 9 8 7 6 5 4 3 2 1 and 9 again, but by the other one: behind 18 answers it is the same one.
        x = with(0, "delay took-1 when took>1;delay 9;");
        due("nineteen", x.copies(1, 5, 0) * 100 + x.copies(1, 5, 1), 1918);
        // A way in: 20 10 5 2 1 1 ..: 0 has 1 at 5 and at 7.
        x = with(0, "delay took/2;");
        due("behind a way in", x.copies(40, 5, 0) * 100 + x.copies(40, 5, 1), 702);
        due("the greatest is the first", x.copies(40, 5, 2), 20);
    }

    // "the greatest delay of the first 60"; "0, 1: not within 60 answers"
    private static void copiesWithinSixty() {
        ThreeDots x = with(0, "delay took+1;");
        for (int t = 0; t <= 939; t += 313) {
            due("the 60th is the greatest", x.copies(t, 5, 2), t + 60);
            due("none comes round", x.copies(t, 5, 0) + x.copies(t, 5, 1), 2 * NONE);
        }
        // 999 is reached by the 58th from 941: the 60th is the same; from 940 the 61st would be.
        due("the 60th", x.copies(941, 5, 0) * 100 + x.copies(941, 5, 1), 6002);
        due("the 61st would be", x.copies(940, 5, 0), NONE);
        // Round by 58, of the same one each: the 60th is the 2nd, with 1 at first the 59th is the 1st.
        x = with(0, "delay took-1 when took>1;delay 58;");
        due("the 59th", x.copies(1, 5, 0) * 100 + x.copies(1, 5, 1), 5958);
        x = with(0, "delay 500 when took=1;delay took-1 when took>1;delay 1;");
        due("the greatest of all", x.copies(2, 5, 2), 500);
        // The first alone is the greatest, the 60th alone is the greatest.
        due("the first", with(0, "delay 900 when took=0;delay 3;").copies(0, 5, 2), 900);
        due("the 60th", with(0, "delay 900 when took=59;delay took+1;").copies(0, 5, 2), 900);
        due("not the 61st", with(0, "delay 900 when took=60;delay took+1;").copies(0, 5, 2), 60);
    }

    // "(CROSS, HOUR as now, that LONG)", "no KISSES, no STOP"
    private static void copiesAsNow() {
        ThreeDots x = with(0, "delay long*10+kisses*9+stop*9;");
        due("that LONG", x.copies(5, 1, 2) * 1000 + x.copies(5, 99, 2), 10990);
        tell(x, 0, "delay cross*10+hour when one=0;delay 1;");
        x.set(1, 0, 7);
        x.set(0, 0, 1439);
        due("CROSS of 0, HOUR", x.copies(5, 5, 2), 93);
        tell(x, 0, "delay cross*10+hour when one=1;delay 1;");
        due("CROSS of 1", x.copies(5, 5, 2), 123);
        tell(x, 0, "delay ticks*5+many+bus*9 when one=1;delay 1;");
        x.set(3, 1, 0);
        x.say(0, 5, 0, false);
        tell(x, 1, "one 1 from 23 for 1 bus;");
        due("ticks, many, bus", x.copies(5, 5, 2), 15);
        x.set(2, 0, 700);
        x.set(2, 1, 700);
        tell(x, 0, "");
        due("TOOK is t", x.copies(5, 5, 2), 5);
    }

    // "q c by (q c + (a million less q) e), of a million, downwards"
    private static void sureDownwards() {
        ThreeDots x = with(3, "sign easy 999 cross 1;sign easy 1 cross 999;sign easy 2 cross 1;");
        due("from 0", x.sure(0, 7, 0), 0);
        due("from 1000", x.sure(1000, 7, 0), 1000000);
        // 1000 * 1 by (1000 + 999000 * 999): 1.00200: 1.
        due("1", x.sure(1, 1, 0), 1);
        // 1000 * 999 by (999000 + 999000): a half.
        due("a half", x.sure(1, 2, 0), 500000);
        // 500000 by 1500000: 333333.3.
        due("a third, downwards", x.sure(500, 4, 0), 333333);
        // It does not show: 1000 less: 500000 * 999 by 500000 * (999 + 998): 500250.3.
        due("does not show", x.sure(500, 0, 4), 500250);
        // 1 by 999 and back again: downwards in between.
        due("there and back", x.sure(500, 3, 0), (int) (1000L * 999 * 1000000 / (1000L * 999 + 999000)));
    }

    // "SIGN by SIGN of one of both"
    private static void sureSignBySign() {
        ThreeDots x = with(3, "sign easy 3 cross 1;sign easy 700 cross 300;sign easy 1 cross 7;");
        int q = 777000;
        int[][] odds = {{3, 1}, {300, 700}, {1, 7}};
        for (int[] o : odds) {
            q = (int) (1000000L * q * o[1] / ((long) q * o[1] + (1000000L - q) * o[0]));
        }
        due("in their order", x.sure(777, 5, 2), q);
        due("none of both: as it is", x.sure(777, 0, 0), 777000);
    }

    // "NEEDS of a SIGN: how often it must show (0 .. 60) so that SURE from p is 500000 at least"
    private static void needsZeroToSixty() {
        ThreeDots x = with(3, "sign easy 1 cross 999;sign easy 999 cross 1;sign easy 500 cross 500;");
        due("500: 0 times", x.needs(500, 0) * 100 + x.needs(500, 1) * 10 + x.needs(500, 2), 0);
        due("499: once", x.needs(499, 0), 1);
        due("1: once, just 500000", x.needs(1, 0), 1);
        due("499: never", x.needs(499, 1) + x.needs(499, 2), 2 * NONE);
        due("0: never", x.needs(0, 0), NONE);
        // 499 * 752 is 375248 and 501 * 749 is 375249: that is 499999.3 of a million.
        x = with(3, "sign easy 749 cross 752;");
        due("499999", x.sure(499, 1, 0), 499999);
        due("499999 is not enough", x.needs(499, 0), 2);
        // 400 * 600 is 600 * 400: that is 500000.
        x = with(3, "sign easy 400 cross 600;");
        due("500000 is enough", x.sure(400, 1, 0) * 10 + x.needs(400, 0), 5000001);
        due("60 times", most(60), true);
        due("61 times: none", most(61), false);
    }

    /** Whether of some sign and some p just so many are needed, by the law of the document told here anew. */
    private static boolean most(int times) {
        for (int easy = 900; easy < 999; easy++) {
            ThreeDots x = with(3, "sign easy " + easy + " cross 999;");
            for (int p = 1; p < 500; p++) {
                long q = 1000L * p;
                int t = 0;
                while (q < 500000 && t < 62) {
                    q = 1000000L * q * 999 / (q * 999 + (1000000L - q) * easy);
                    t++;
                }
                if (t == times) {
                    int got = x.needs(p, 0);
                    if (times > 60) {
                        due("not by 60", got, NONE);
                    }
                    return got == times;
                }
            }
        }
        return false;
    }

    // "the SIGN for which SURE by it alone, if it shows, and SURE, if it does not, are farthest apart; of several
    // the least"
    private static void waitsForTheFarthest() {
        due("of several the least", with(3, "sign easy 500 cross 600;".repeat(8)).waits(500), 0);
        due("farthest", with(3, "sign easy 500 cross 600;sign easy 500 cross 700;sign easy 500 cross 700;").waits(500),
            1);
        due("the other way round", with(3, "sign easy 500 cross 600;sign easy 700 cross 400;").waits(500), 1);
        due("the last", with(3, "sign easy 500 cross 501;".repeat(7) + "sign easy 1 cross 999;").waits(500), 7);
        due("none is apart", with(3, "sign easy 5 cross 5;sign easy 5 cross 5;").waits(300), 0);
        // By p: a rare sign tells more, the rarer it is to be cross.
        ThreeDots x = with(3, "sign easy 2 cross 10;sign easy 300 cross 700;");
        due("p 500", x.waits(500), 1);
        due("p 50", x.waits(50), 0);
    }

    // "WHICH of ONE: .. the one with most LONG and 10 times KISSES; of several the latest"
    private static void whichIsTheLatest() {
        ThreeDots x = new ThreeDots();
        x.say(0, 99, 0, false);
        due("the only one", x.which(1), 0);
        x.say(0, 89, 1, false);
        due("as much: the latest", x.which(1), 1);
        x.say(0, 9, 9, false);
        due("as much again", x.which(1), 2);
        x.say(0, 8, 9, false);
        due("less", x.which(1), 2);
        x.say(0, 10, 9, false);
        due("more", x.which(1), 4);
        x.say(1, 99, 9, false);
        due("his own don't count", x.which(1), 4);
        due("the other one's", x.which(0), 5);
        x.takeBack(4);
        due("back", x.which(1), 2);
        x = new ThreeDots();
        x.say(0, 1, 0, false);
        due("the least of all", x.which(1), 0);
    }

    // "that no MESSAGE answers"; "(An answer that is BACK is none, here and below.)"
    private static void whichOfAnswered() {
        ThreeDots x = pausesOf(3);
        due("answered", x.which(1), NONE);
        due("the answer waits", x.which(0), 1);
        due("none waits for 1", x.pauses(1, 2), 0);
        x.takeBack(1);
        due("the answer is back: it is none", x.which(1), 0);
        due("nor does it wait", x.which(0), NONE);
        due("one waits for 1", x.pauses(1, 2), 1);
        due("no pause", x.pauses(1, 0) + x.pauses(1, 1), 0);
        // Read or not is all the same.
        x = with(0, "go 0;");
        x.say(0, 5, 0, false);
        x.minutes(5);
        due("read, not answered", x.which(1), 0);
        // The answer stands just behind what it answers, and far behind.
        x = with(0, "go 1000 when kisses>0;go 0;delay 1;kiss 0;");
        x.say(0, 9, 1, false);
        x.minutes(3);
        due("just behind", x.message(1, 6) * 10 + x.which(1), NONE);
        for (int i = 0; i < 20; i++) {
            x.say(0, 1, 0, false);
        }
        x.say(0, 9, 1, false);
        x.minutes(3);
        due("the last but one is answered", x.message(23, 6), 22);
        due("not the answered ones", x.which(1), 21);
    }

    // "the longest row of them (others left out) in which KISSES grow less each time"
    private static void driftRow() {
        int[][] rows = {{}, {0}, {9}, {9, 9}, {0, 9}, {9, 0}, {9, 8, 7, 6, 5, 4, 3, 2, 1, 0}, {0, 1, 2, 3},
            {5, 9, 4, 8, 3, 7}, {9, 1, 2, 3, 0}, {3, 2, 9, 8, 7, 1}};
        int[] longest = {0, 1, 1, 1, 1, 2, 10, 1, 3, 3, 4};
        for (int r = 0; r < rows.length; r++) {
            for (int one = 0; one < 2; one++) {
                ThreeDots x = new ThreeDots();
                for (int k : rows[r]) {
                    x.say(1 - one, 5, 5, false);
                    x.say(one, 5, k, false);
                }
                due("row " + r, x.drift(one, 0), longest[r]);
            }
        }
        // {9, 7 that is back, 5, 3}: read ones count, back ones don't.
        ThreeDots x = with(0, "go 0;");
        x.say(0, 5, 9, false);
        x.minutes(3);
        x.say(0, 5, 7, false);
        x.takeBack(1);
        x.say(0, 5, 5, false);
        x.say(0, 5, 3, false);
        due("9 5 3", x.drift(0, 0), 3);
    }

    // "how often they are more than of the one ahead less how often fewer"
    private static void driftMoreLessFewer() {
        int[][] rows = {{5}, {5, 5}, {5, 6}, {5, 4}, {0, 9, 0, 9}, {9, 0, 9, 0}, {1, 2, 3, 3, 2}};
        int[] sums = {0, 0, 1, -1, 1, -1, 1};
        for (int r = 0; r < rows.length; r++) {
            ThreeDots x = new ThreeDots();
            for (int k : rows[r]) {
                x.say(1, 5, k, false);
                x.say(0, 5, 9 - k, false);
            }
            due("more less fewer " + r, x.drift(1, 1), sums[r]);
        }
        ThreeDots x = new ThreeDots();
        for (int i = 0; i < 60; i++) {
            x.say(0, 5, i % 2 == 0 ? 9 : 0, false);
        }
        due("59 steps", x.drift(0, 1), -1);
        x.takeBack(59);
        due("58 steps", x.drift(0, 1), 0);
        x.takeBack(1);
        due("the one ahead is not back", x.drift(0, 1), 0);
    }

    // "PAUSES of ONE: of his answers the sum of MINUTES from SENT of what they answer; the greatest; MESSAGES to
    // him that wait (not BACK, not answered)"
    private static void pausesOfAnswers() {
        ThreeDots x = pausesOf(7, 2, 30, 2);
        due("sum", x.pauses(1, 0), 41);
        due("greatest", x.pauses(1, 1), 30);
        due("none waits", x.pauses(1, 2), 0);
        due("0 answered none", x.pauses(0, 0) + x.pauses(0, 1), 0);
        due("four wait for 0", x.pauses(0, 2), 4);
        x.say(0, 5, 0, false);
        x.say(1, 5, 0, false);
        due("one waits for 1", x.pauses(1, 2), 1);
        due("five for 0", x.pauses(0, 2), 5);
        x.takeBack(8);
        due("back: it does not wait", x.pauses(1, 2), 0);
        x.takeBack(7);
        due("an answer that is back is none", x.pauses(1, 0) * 100 + x.pauses(1, 1) * 10 + x.pauses(1, 2), 1171);
    }

    // "its first TIME (below it; none goes ahead of that)"
    private static void fitsAreNotAhead() {
        int[][] alone = {{0, 51}, {1, 102}, {9, 102}, {10, 102}, {59, 102}, {60, 102}, {1439, 102}};
        for (int[] a : alone) {
            ThreeDots x = new ThreeDots();
            x.time(a[0]);
            due("couples for " + a[0], x.fits(0), a[1]);
        }
        // A bus each 60 minutes goes first at 59 at the latest: 59 or, one minute ahead, 58.
        ThreeDots x = new ThreeDots();
        x.time(59);
        due("longest", x.fits(1), 60);
        due("first, the least of several", x.fits(2), 58);
        x.time(NONE);
        x.time(60);
        due("first: 0 or 59", x.fits(1) * 100 + x.fits(2), 6000);
        x.time(NONE);
        x.time(61);
        due("first: 0 or 1", x.fits(1) * 100 + x.fits(2), 6000);
    }

    // "so that each told TIME is one of the bus, or one minute behind"
    private static void fitsOneMinuteBehind() {
        int[][] behind = {{0, 51}, {1, 51}, {2, 0}, {9, 0}};
        for (int[] b : behind) {
            ThreeDots x = new ThreeDots();
            x.time(0);
            x.time(b[0]);
            due("0 and " + b[0], x.fits(0), b[1]);
        }
        ThreeDots x = new ThreeDots();
        x.time(0);
        x.time(10);
        // 10 is one of each 10, one minute behind none (9 is no time between).
        due("0 and 10", x.fits(0) * 100 + x.fits(1), 110);
        x.time(NONE);
        x.time(0);
        x.time(11);
        due("0 and 11: each 10 or 11", x.fits(0) * 100 + x.fits(1), 211);
        x.time(NONE);
        x.time(11);
        x.time(0);
        due("in whatever order", x.fits(0) * 100 + x.fits(1), 211);
        x.time(NONE);
        x.time(10);
        x.time(70);
        x.time(71);
        // 60 apart, and one minute more: a bus at 10 and at 70, each part of 60 that is 10 at least.
        due("each of 10 12 15 20 30 60", x.fits(0), 6);
        due("60 from 10", x.fits(1) * 100 + x.fits(2), 6010);
    }

    // "the longest time between; its first TIME"
    private static void fitsLongest() {
        ThreeDots x = new ThreeDots();
        for (int i = 0; i < 10; i++) {
            x.time(3 + 20 * i);
        }
        due("10 and 20 from 3, or from 2", x.fits(0), 4);
        due("20", x.fits(1), 20);
        due("2 is the least", x.fits(2), 2);
        x.time(NONE);
        x.time(1439);
        x.time(1379);
        due("60 from 58 or 59", x.fits(1) * 100 + x.fits(2), 6058);
    }

    // "from heaps of LONG .. take 1 .. KISSES and 1; who takes the last one wins"
    private static void gameOfOneHeap() {
        int[][] heaps = {{1, 0, 1}, {2, 0, NONE}, {3, 0, 1}, {99, 0, 1}, {98, 0, NONE}, {2, 1, 2}, {3, 1, NONE},
            {10, 9, 10}, {11, 9, NONE}, {12, 9, 1}, {99, 9, NONE}, {98, 9, 10}, {1, 9, 1}};
        for (int[] h : heaps) {
            ThreeDots x = new ThreeDots();
            x.say(1, h[0], h[1], false);
            due("take of " + h[0] + " by " + h[1] + " and 1", x.game(1), h[2]);
            due("the message", x.game(0), h[2] == NONE ? NONE : 0);
        }
    }

    // "the MESSAGE (of several the least), how many (the fewest) who begins well takes"; "not READ nor BACK"
    private static void gameOfSeveral() {
        ThreeDots x = with(0, "go 0;");
        x.say(0, 1, 0, false);
        x.say(1, 1, 0, false);
        due("even", x.game(0), NONE);
        x.say(0, 1, 0, false);
        due("of several the least", x.game(0) * 10 + x.game(1), 1);
        x.takeBack(0);
        due("back is no heap", x.game(0), NONE);
        x.takeBack(1);
        due("of what is left", x.game(0) * 10 + x.game(1), 21);
        x.minutes(2);
        due("read is no heap", x.game(0), NONE);
        // 4 by 1 .. 2 is worth 1, 5 by 1 .. 5 is 5, 3 by 1 .. 3 is 3: together 7. 5 made 2 leaves 1 2 3: lost.
        x = new ThreeDots();
        x.say(0, 4, 1, false);
        x.say(0, 5, 4, false);
        x.say(1, 3, 2, false);
        due("three from the second", x.game(0) * 10 + x.game(1), 13);
        // Up to a greater worth: 3 by 1 .. 2 is worth 0 and, 1 taken, 2; the other is worth 2.
        x = new ThreeDots();
        x.say(0, 3, 1, false);
        x.say(0, 2, 9, false);
        due("also up", x.game(0) * 10 + x.game(1), 1);
        // 60 heaps.
        x = new ThreeDots();
        for (int i = 0; i < 59; i++) {
            x.say(0, 1, 0, false);
        }
        due("59 of one", x.game(0), 0);
        x.say(0, 3, 9, false);
        due("the last one made even", x.game(0) * 10 + x.game(1), 592);
    }

    // "sets of 0 .. 3 (2 times 0's and 1's choice) from which neither alone would change for less"
    private static void restsOfTable() {
        ThreeDots x = new ThreeDots();
        x.table(0, 1, 1);
        due("dearer by one for both: left by either", x.rests(), 14);
        x.table(0, 1, 0);
        due("dearer for 0 alone", x.rests(), 14);
        x.table(0, 0, 1);
        due("dearer for 1 alone", x.rests(), 14);
        x.table(0, 0, 0);
        due("as dear: stays", x.rests(), 15);
        // 0 changes 1 to 3 and back, 1 changes 1 to 0 and back.
        x.table(1, 5, 0);
        due("1: 0 leaves it for 3", x.rests(), 13);
        x.table(3, 6, 0);
        due("now 0 leaves 3 for 1", x.rests(), 7);
        x.table(1, 5, 1);
        due("and 1 leaves 1 for 0", x.rests(), 5);
        x.table(0, 99, 99);
        due("the most", x.rests(), 6);
        int[] k = {0, 1, 2, 3};
        for (int rest : k) {
            ThreeDots y = new ThreeDots();
            for (int other : k) {
                y.table(other, other == rest ? 0 : (other ^ rest) == 3 ? 9 : 5, other == rest ? 0
                    : (other ^ rest) == 3 ? 9 : 5);
            }
            due("rests at " + rest, y.rests(), 1 << rest);
        }
    }

    // "of his first four MESSAGES not READ nor BACK the set by which, being BACK now, CROSS of the other one is
    // least"
    private static void deletesFirstFour() {
        ThreeDots x = with(0, "hurt 5;go 0;");
        for (int i = 0; i < 6; i++) {
            x.say(0, 5, 0, false);
            due("all up to four", x.deletes(0, 2, 1), (1 << Math.min(4, i + 1)) - 1);
            due("CROSS", x.deletes(0, 2, 0), i < 4 ? 10 : 10 + 5 * (i - 3));
        }
        x.takeBack(1);
        due("bit 0 the first that is not back", x.deletes(0, 2, 1), 15);
        due("one is left", x.deletes(0, 2, 0), 15);
        due("of 1: none", x.deletes(1, 2, 1), 0);
        x.minutes(2);
        due("read: none", x.deletes(0, 2, 1), 0);
        due("CROSS as it is", x.deletes(0, 2, 0), 35);
        x.say(0, 5, 0, false);
        due("bit 0 the first that is not read", x.deletes(0, 2, 1), 1);
        // Only the fifth would hurt: it can't be chosen.
        x = with(0, "hurt 9 when kisses=9;hurt 0;go 0;");
        for (int i = 0; i < 5; i++) {
            x.say(0, 5, i == 4 ? 9 : 0, false);
        }
        due("not the fifth", x.deletes(0, 2, 0) * 100 + x.deletes(0, 2, 1), 1900);
        x = with(0, "hurt 9 when kisses=9;hurt 0;go 0;");
        for (int i = 0; i < 5; i++) {
            x.say(0, 5, i == 3 ? 9 : 0, false);
        }
        due("but the fourth", x.deletes(0, 2, 0) * 100 + x.deletes(0, 2, 1), 1008);
    }

    // "(of several the fewest, then the least set)"
    private static void deletesFewest() {
        ThreeDots x = with(0, "hurt 0;go 0;");
        for (int i = 0; i < 4; i++) {
            x.say(0, 5, 0, false);
        }
        due("none is the fewest", x.deletes(0, 2, 1), 0);
        // CROSS is 10 + 1 for the first that is read, and not less by more: one, any, is enough with 1 left out.
        tell(x, 0, "hurt 5 when cross=13;hurt 1;go 0;");
        // 11 12 13 18: three read leave 13, two 12, one 11, none 10: all four.
        due("all four", x.deletes(0, 2, 0) * 100 + x.deletes(0, 2, 1), 1015);
        tell(x, 0, "hurt 0-9 when cross=12;hurt 1;go 0;");
        // Read one by one: 11 12 3 4. Three read is least: one set of one, the least is the first.
        due("one of four: the least set", x.deletes(0, 2, 0) * 100 + x.deletes(0, 2, 1), 301);
        tell(x, 0, "hurt 0-9 when cross=11;hurt 1;go 0;");
        // 11 2 3 4: two read is least: of six sets of two the least.
        due("two of four: the least set", x.deletes(0, 2, 0) * 100 + x.deletes(0, 2, 1), 203);
        // The third alone (set 4) or the first and the second (set 3): the fewest goes before the least set.
        x = with(0, "hurt 0-1 when kisses=1;hurt 0-2 when cross=10;hurt 5;go 0;");
        x.say(0, 5, 1, false);
        x.say(0, 5, 1, false);
        x.say(0, 5, 2, false);
        // Read are all: 9 8 13; the last two: 9 14; the third: 8; the first two: 9 8; one of these: 9; none: 10.
        due("the third alone", x.deletes(0, 2, 0) * 100 + x.deletes(0, 2, 1), 804);
        x.set(1, 1, 30);
        tell(x, 0, "hurt 0-1 when kisses=1;hurt 0-2 when cross=30;hurt 5;go 0;");
        due("the third alone from 30", x.deletes(0, 2, 0) * 100 + x.deletes(0, 2, 1), 2804);
        x.set(1, 1, 10);
        // Both ways are as good as none back.
        tell(x, 0, "hurt 0-1 when kisses=1;hurt 0-2 when cross=10;hurt 0;go 0;");
        due("none back", x.deletes(0, 2, 0) * 100 + x.deletes(0, 2, 1), 800);
    }

    // "being BACK now": before any MINUTE goes by; "behind n (1 .. 300) MINUTES in thought"
    private static void deletesNow() {
        ThreeDots x = with(0, "hurt 5;go 0;");
        x.say(0, 5, 0, false);
        due("one minute: not read anyhow", x.deletes(0, 1, 1), 0);
        due("two: read", x.deletes(0, 2, 1), 1);
        tell(x, 1, "one 1 from 0 for 4 sleep;");
        x.set(0, 0, 0);
        x.say(0, 5, 0, false);
        due("240: not yet read, a tenth less", x.deletes(0, 240, 0) * 10 + x.deletes(0, 240, 1), 90);
        due("241: read", x.deletes(0, 241, 0) * 10 + x.deletes(0, 241, 1), 91);
        // One that is back now is not the latest that a saying deletes.
        x = with(0, "hurt 5 when kisses=0;hurt 9;go 0;");
        tell(x, 2, "at 0 one 0 deletes;");
        x.say(0, 5, 1, false);
        x.say(0, 5, 0, false);
        // The second goes by itself; if it is back now, the first goes.
        due("the second: then the first goes, too", x.deletes(0, 2, 0) * 10 + x.deletes(0, 2, 1), 101);
        // In thought an answer that comes of it counts: 1 answers at 500 at least.
        x = with(0, "go 500;delay 1;hurt 0 when one=1;hurt 7;");
        x.say(1, 5, 0, false);
        due("of 1: CROSS of 0", x.deletes(1, 9, 0) * 10 + x.deletes(1, 9, 1), 101);
    }

    // "of rows of a MESSAGE, one TO it, one TO that, and so on (none BACK) the most KISSES together"
    private static void threadRows() {
        ThreeDots x = with(0, "go 1000;delay 1;kiss kisses-1;");
        x.say(0, 5, 9, false);
        due("one", x.thread(0), 9);
        x.minutes(3);
        due("two", x.thread(0), 17);
        x.takeBack(1);
        due("the second is back", x.thread(0), 9);
        x.undo();
        x.minutes(100);
        due("9 8 7 .. 0", x.thread(0), 45);
        due("from the first", x.thread(1), 0);
        x = with(0, "go 1000;delay 1;kiss 9;");
        x.say(0, 5, 0, false);
        x.minutes(300);
        due("sixty in one row", x.look(1) * 1000 + x.thread(0), 60000 + 59 * 9);
    }

    // "its first MESSAGE (of several the least)"
    private static void threadLeast() {
        ThreeDots x = new ThreeDots();
        x.say(0, 5, 3, false);
        x.say(0, 5, 4, false);
        x.say(1, 5, 4, false);
        due("of several the least", x.thread(0) * 10 + x.thread(1), 41);
        x.takeBack(1);
        due("the other", x.thread(0) * 10 + x.thread(1), 42);
        x.takeBack(2);
        due("the first", x.thread(0) * 10 + x.thread(1), 30);
        // No kisses at the head of a row: the head is the least all the same.
        x = with(0, "go 1000 when many<2;go 0;delay 1;kiss 5;");
        x.say(0, 5, 0, false);
        x.minutes(3);
        x.say(0, 5, 5, false);
        due("from its head", x.thread(0) * 10 + x.thread(1), 50);
    }

    // "of which the one that was SENT first (or in the same MINUTE) was not READ ahead of the MINUTE in which the
    // other one was SENT"
    private static void crossedCouples() {
        // 0's is read at 1; 1's is sent at 0, 1, 2.
        int[] crossed = {1, 1, 0};
        for (int late = 0; late < 3; late++) {
            for (int one = 0; one < 2; one++) {
                ThreeDots x = with(0, "go 0;");
                x.say(one, 5, 0, false);
                if (late > 0) {
                    x.minutes(late);
                }
                x.say(1 - one, 5, 0, false);
                due("sent " + late + " later", x.crossed(), crossed[late]);
                x.minutes(3);
                due("read later: all the same", x.crossed(), crossed[late]);
                x.say(one, 5, 0, false);
                x.takeBack(2);
                due("back: no couple", x.crossed(), crossed[late]);
            }
        }
        ThreeDots x = new ThreeDots();
        for (int i = 0; i < 60; i++) {
            x.say(i % 2, 5, 0, false);
        }
        due("thirty times thirty", x.crossed(), 900);
        x = with(1, "one 1 from 0 for 24 sleep;");
        x.say(0, 5, 0, false);
        x.minutes(100);
        x.say(1, 5, 0, false);
        due("never read", x.crossed(), 1);
        for (int back = 0; back < 2; back++) {
            for (int one = 0; one < 2; one++) {
                x = new ThreeDots();
                x.say(one, 5, 5, true);
                x.say(1 - one, 5, 5, true);
                due("both", x.crossed(), 1);
                x.takeBack(back);
                due("neither BACK", x.crossed(), 0);
            }
        }
    }

    // "in how many of them both are free or on a bus; the first of these (0 this one); the longest run of them"
    private static void awakeHours() {
        ThreeDots x = with(1, "one 0 from 22 for 8 sleep;one 1 from 9 for 3 busy;one 1 from 12 for 1 bus;");
        // Both: 6 7 8 and 12 .. 21.
        int[][] asked = {{0, 24, 13, 6, 10}, {0, 6, 0, NONE, 0}, {0, 7, 1, 6, 1}, {6, 3, 3, 0, 3}, {6, 4, 3, 0, 3},
            {9, 3, 0, NONE, 0}, {9, 4, 1, 3, 1}, {21, 9, 1, 0, 1}, {21, 10, 2, 0, 1}, {21, 48, 26, 0, 10},
            {22, 48, 26, 8, 10}, {15, 48, 26, 0, 10}, {23, 1, 0, NONE, 0}, {12, 1, 1, 0, 1}};
        for (int[] a : asked) {
            for (int minute = 0; minute < 60; minute += 59) {
                x.set(0, 0, 60 * a[0] + minute);
                for (int w = 0; w < 3; w++) {
                    due("awake at " + a[0] + " for " + a[1] + " what " + w, x.awake(a[1], w), a[2 + w]);
                }
            }
        }
        due("a run over midnight", with(1, "one 0 from 12 for 1 busy;").awake(48, 2), 23);
        due("all of 48", new ThreeDots().awake(48, 2), 48);
    }

    // "which answer is the first that is as LONG as what it answers (the first answer is 1; 60 at most)"
    private static void mirrorsAsLong() {
        ThreeDots x = new ThreeDots();
        int[][] mirrors = {{1, 1, 1}, {2, 1, 2}, {3, 2, 2}, {4, 3, 2}, {99, 8, 2}};
        for (int[] m : mirrors) {
            due("answers from " + m[0], x.mirrors(m[0], 0), m[1]);
            due("LONG from " + m[0], x.mirrors(m[0], 1), m[2]);
        }
        tell(x, 0, "lasts long+1;");
        due("99 is reached by the 59th from 40: the 60th", x.mirrors(40, 0) * 100 + x.mirrors(40, 1), 6099);
        due("from 39: none", x.mirrors(39, 0), NONE);
        due("LONG of the 60th", x.mirrors(39, 1), 99);
        due("LONG of the 60th", x.mirrors(1, 1), 61);
        due("at once", x.mirrors(99, 0) * 100 + x.mirrors(99, 1), 199);
        tell(x, 0, "lasts 5 when one=0;lasts 6;");
        due("never", x.mirrors(9, 0) * 100 + x.mirrors(9, 1), NONE * 100 + 6);
        due("0 answers first", x.mirrors(5, 0) * 100 + x.mirrors(5, 1), 105);
        due("not 1", x.mirrors(6, 0), NONE);
    }

    // "(no KISSES, no STOP, TOOK, CROSS, HOUR as now)"
    private static void mirrorsAsNow() {
        ThreeDots x = with(0, "lasts took+cross+hour+kisses*9+stop*9+1 when one=0;lasts long;");
        x.set(2, 0, 3);
        x.set(2, 1, 50);
        x.set(1, 0, 20);
        x.set(1, 1, 70);
        x.set(0, 0, 1439);
        due("of 0", x.mirrors(5, 0) * 100 + x.mirrors(5, 1), 247);
        tell(x, 0, "lasts took+cross/10 when one=1;lasts long;");
        due("0 copies at once", x.mirrors(5, 0) * 100 + x.mirrors(5, 1), 105);
        tell(x, 0, "lasts took+cross/10 when one=1;lasts 99 when long<99;lasts 98;");
        due("never; 1 is the 60th", x.mirrors(5, 0) * 100 + x.mirrors(5, 1), NONE * 100 + 57);
    }

    // "that delay c of 1, 2, 4 .. 256 .. CROSS of both together would be least; of several the least; that CROSS"
    private static void easeLeast() {
        // Being read after so many minutes hurts 0: late enough is best. Read at 1 + c + 1, so 3 + c minutes hurt.
        for (int c = 1; c <= 128; c *= 2) {
            ThreeDots x = with(0, "go 1000;delay 5;hurt 9 when one=0;hurt 0;");
            x.set(1, 0, 0);
            x.set(1, 1, 0);
            x.say(0, 5, 0, false);
            due("n " + (c + 2) + ": " + c + " is late enough", x.ease(1, c + 2, 0), c);
            due("CROSS", x.ease(1, c + 2, 1), 0);
            due("n " + (c + 3) + ": the next", x.ease(1, c + 3, 0), 2 * c);
        }
        ThreeDots x = with(0, "go 1000;delay 5;hurt 9 when one=0;hurt 0;");
        x.say(0, 5, 0, false);
        due("258: 256", x.ease(1, 258, 0), 256);
        // Now 256 hurts once, too, as 128 does (19 less a tenth, or 10 less a tenth and 9): the least of both.
        due("259: of several the least", x.ease(1, 259, 0), 128);
        due("CROSS: 18 and 9", x.ease(1, 259, 1), 27);
        due("nothing hurts: the least", new ThreeDots().ease(0, 300, 0), 1);
    }

    // "if he took it with each answer": the other one keeps to THE LAW; go is THE LAW's, too
    private static void easeOnlyHis() {
        ThreeDots x = with(0, "go 1000;delay 3;hurt 0 when one=1;hurt 7;");
        x.say(1, 5, 0, false);
        // 0 reads at 1: 17. What 0 answers hurts nobody; 1 answers three minutes later, and 0 reads that.
        // By c: 0 answers at 1 + c, 1 reads at 2 + c, answers at 5 + c, 0 reads at 6 + c: hurt again.
        due("8 minutes: 1 and 0 read again at 7", x.ease(0, 8, 0), 2);
        due("CROSS", x.ease(0, 8, 1), 27);
        due("7 minutes: none yet", x.ease(0, 7, 0), 1);
        // Of 1: 0 keeps his 3 and answers at 4, 1 reads at 5, answers at 5 + c, 0 reads at 6 + c.
        due("of 1: 0 keeps his 3", x.ease(1, 8, 0) * 10 + x.ease(1, 7, 0), 21);
        x = with(0, "go 499;delay 3;hurt 7;");
        x.say(1, 5, 0, false);
        due("no answer at all", x.ease(0, 300, 0), 1);
    }

    // "to what is READ from now on"
    private static void easeFromNowOn() {
        ThreeDots x = with(0, "go 1000;delay 50;hurt 0 when one=1;hurt 7;");
        x.say(0, 5, 0, false);
        x.minutes(2);
        due("due as it is", x.message(0, 8), 51);
        // At 51 it is answered, at 52 read: 51 minutes from 2 on go to 52.
        due("50: not yet", x.ease(1, 50, 1), 20);
        due("51: read, whatever c", x.ease(1, 51, 0) * 100 + x.ease(1, 51, 1), 127);
        due("still due as it is", x.message(0, 8), 51);
    }

    // "laid into two parts, those below a number and the others (one may be empty)"; "(1 .. 9999; of several the
    // least; fewer than two PAUSES: none)"
    private static void splitParts() {
        due("none", pausesOf().split(0), NONE);
        due("one", pausesOf(5).split(0), NONE);
        due("two alike: one part empty", pausesOf(5, 5).split(0), 1);
        due("two: parted, the least number", pausesOf(5, 9).split(0), 6);
        due("in whatever order", pausesOf(9, 5).split(0), 6);
        due("one behind the other", pausesOf(5, 6).split(0), 6);
        due("the shortest", pausesOf(2, 3).split(0), 3);
        due("2 2 9", pausesOf(9, 2, 2).split(0), 3);
        due("2 9 9", pausesOf(9, 2, 9).split(0), 3);
        due("2 3 9 9: one off", pausesOf(2, 3, 9, 9).split(0), 4);
        // 2 4 6: behind 2 or behind 4 it is 2.
        due("of several the least", pausesOf(2, 4, 6).split(0), 3);
        due("of 0: none answered", pausesOf(2, 9).split(1), 0);
    }

    // "how far each is from the middle one of its part (by size, the lower one of two)"; "how many of ONE 0 are in
    // the lower part"
    private static void splitMiddle() {
        // 10 20 60 70: behind 20 it is 20; behind 10: 50 + 10 = 60 off 60 (20: 40, 70: 10); behind 60: 10 + 40.
        due("in the middle", pausesOf(10, 20, 60, 70).split(0), 21);
        ThreeDots x = with(0, "go 1000 when kisses>0;go 0;delay long;kiss 0;hurt 0;");
        x.say(1, 4, 1, false);
        x.say(0, 5, 1, false);
        x.say(1, 6, 1, false);
        x.say(1, 40, 1, false);
        x.say(0, 41, 1, false);
        x.minutes(43);
        due("5 6 7 41 42: behind 7", x.split(0), 8);
        due("of 0: 5 and 7", x.split(1), 2);
        x.undo();
        due("without the last", x.split(0), 8);
        // Answers that come later, but sooner behind what they answer: parts are by size, not by their order.
        x = pausesOf(21);
        x.minutes(10);
        x.say(0, 1, 1, false);
        x.say(0, 2, 1, false);
        x.say(0, 3, 1, false);
        x.minutes(5);
        due("21, then 2 3 4", x.split(0), 5);
        x = with(0, "go 1000 when kisses>0;go 0;delay long;kiss 0;hurt 0;");
        x.say(0, 4, 1, false);
        x.say(1, 39, 1, false);
        x.minutes(50);
        x.say(1, 2, 1, false);
        x.minutes(5);
        due("5 of 1, 40 of 0, 3 of 0", x.split(0), 6);
        due("of 0 below: 3 alone", x.split(1), 1);
    }

    // "the number (1 .. 9999 ..)"
    private static void splitBounds() {
        // 2 behind 9997 is the last number: 9999 parts off 9998.
        int[][] lates = {{8, 60, 9999}, {9, 60, 1}};
        for (int[] l : lates) {
            ThreeDots x = with(0, "go 1000 when kisses>0;go 0;delay long;kiss 0;");
            tell(x, 1, "one 1 from 0 for 24 sleep;");
            x.say(0, l[0], 1, false);
            x.say(0, l[1], 1, false);
            for (int i = 0; i < 33; i++) {
                x.minutes(300);
            }
            x.minutes(90);
            tell(x, 1, "");
            x.minutes(61);
            due("sum", x.pauses(1, 0), 19980 + l[0] + l[1]);
            due("the number", x.split(0), l[2]);
        }
        // Sixty messages, thirty answers: 2, 3 .. 31: parted in the middle.
        int[] thirty = new int[30];
        for (int i = 0; i < 30; i++) {
            thirty[i] = 31 - i;
        }
        due("thirty", pausesOf(thirty).split(0), 17);
    }

    // "UNDO: the latest MINUTE, SAYING, TAKING BACK, RINGING not undone yet goes back (STATE, THE BOOK, too)"
    private static void undoOneByOne() {
        ThreeDots x = with(0, "go 1000;delay 1;hurt 5;");
        x.set(1, 0, 60);
        List<List<Integer>> stands = new ArrayList<>();
        stands.add(seen(x));
        x.say(0, 5, 0, true);
        stands.add(seen(x));
        x.minutes(1);
        stands.add(seen(x));
        x.minutes(1);
        stands.add(seen(x));
        x.minutes(1);
        stands.add(seen(x));
        x.takeBack(1);
        stands.add(seen(x));
        x.ring();
        for (int i = 5; i >= 0; i--) {
            due("undo", x.undo(), true);
            same("as ahead of it " + i, seen(x), stands.get(i));
            due("left", x.look(10), i);
        }
        due("nothing", x.undo(), false);
        same("nothing changed", seen(x), stands.get(0));
    }

    // "6 are kept"
    private static void undoSixKept() {
        for (int n : new int[] {1, 5, 6, 7, 300}) {
            ThreeDots x = new ThreeDots();
            x.say(0, 5, 0, false);
            x.say(0, 5, 0, false);
            x.minutes(n);
            due("kept", x.look(10), Math.min(6, n + 2));
            int steps = 0;
            while (steps < 20 && x.undo()) {
                steps++;
            }
            due("undone", steps, Math.min(6, n + 2));
            due("MINUTE", x.look(0), Math.max(0, n - 6));
            due("messages", x.look(1) >= (n >= 6 ? 2 : n == 5 ? 1 : 0), true);
        }
        ThreeDots x = new ThreeDots();
        for (int i = 0; i < 20; i++) {
            x.say(0, 5, 0, false);
            x.undo();
            x.say(0, 6, 0, false);
        }
        due("undone ones are not kept", x.look(10) * 100 + x.look(1), 620);
    }

    // "whatever else is told but THE LAW, HABITS, TIMES, TABLE (the taking of THE IMAGE does not) forgets them"
    private static void undoForgotten() {
        for (int i = 0; i < 14; i++) {
            ThreeDots x = new ThreeDots();
            x.image(true);
            x.ring();
            switch (i) {
                case 0 -> tell(x, 0, "go 1;");
                case 1 -> tell(x, 3, "sign easy 1 cross 1;");
                case 2 -> x.time(5);
                case 3 -> x.time(NONE);
                case 4 -> x.table(0, 1, 1);
                case 5 -> x.image(true);
                case 6 -> x.state(0);
                case 7 -> x.set(0, 0, 0);
                case 8 -> x.set(1, 0, 0);
                case 9 -> x.set(2, 0, 0);
                case 10 -> x.set(3, 0, 1);
                case 11 -> tell(x, 1, "one 0 from 0 for 1 bus;");
                case 12 -> tell(x, 2, "at 5 one 0 deletes;");
                default -> x.image(false);
            }
            due("kept or forgotten " + i, x.look(10), i < 6 ? 1 : 0);
            due("undone or not " + i, x.undo(), i < 6);
        }
        // What is told in between is not undone.
        ThreeDots x = new ThreeDots();
        x.ring();
        tell(x, 0, "go 1;go 2;");
        tell(x, 3, "sign easy 1 cross 1;");
        x.time(5);
        x.table(0, 1, 1);
        x.undo();
        due("THE LAW stays", x.look(5), 2);
        due("HABITS stay", x.look(8), 1);
        due("TIMES stay", x.look(9), 1);
        due("TABLE stays", x.rests(), 14);
    }

    // "goes back (STATE, THE BOOK, too)"
    private static void undoGoesOn() {
        // The same draws come again.
        ThreeDots x = with(0, "go 500;delay 1;");
        x.say(0, 5, 0, false);
        x.say(1, 5, 0, false);
        x.minutes(3);
        List<Integer> once = seen(x);
        x.undo();
        x.undo();
        due("no draw yet", x.look(4), 0);
        x.minutes(2);
        same("the same again", seen(x), once);
        x.undo();
        x.ring();
        x.undo();
        x.minutes(1);
        same("and again", seen(x), once);
    }

    // "THE IMAGE: all that is and was told but the TAPE, fault() and what can be undone (nothing then)"
    private static void imageWhole() {
        ThreeDots x = with(0, "go 1000;delay 4;");
        tell(x, 1, "one 0 from 1 for 1 busy;");
        tell(x, 2, "at 9 one 1 says 8 kisses 8 stop;");
        tell(x, 3, "sign easy 100 cross 300;");
        x.time(70);
        x.table(1, 3, 4);
        x.set(1, 0, 33);
        x.set(2, 1, 44);
        x.set(3, 1, 0);
        x.state(55);
        x.say(0, 5, 5, true);
        x.minutes(2);
        x.image(true);
        due("the taking forgets nothing", x.look(10), 3);
        List<Integer> then = seen(x);
        int[] asked = {x.sure(500, 1, 0), x.fits(2), x.goes(12, 0), x.awake(24, 0), x.message(0, 8)};
        x.state(1);
        x.set(0, 0, 500);
        x.set(1, 0, 1);
        x.set(2, 1, 1);
        x.set(3, 1, 1);
        for (int k = 0; k < 4; k++) {
            tell(x, k, "");
        }
        x.time(NONE);
        x.table(1, 0, 0);
        x.say(1, 1, 1, false);
        x.say(1, 1, 1, false);
        x.ring();
        due("gone back to", x.image(false), true);
        same("all as it was", seen(x), then);
        int[] again = {x.sure(500, 1, 0), x.fits(2), x.goes(12, 0), x.awake(24, 0), x.message(0, 8)};
        for (int i = 0; i < asked.length; i++) {
            due("asked again " + i, again[i], asked[i]);
        }
        due("nothing can be undone then", x.look(10), 0);
        due("it is answered when it is due", x.minutes(4), 1);
    }

    // "as it was when it was taken; gone back to it may be more than once"
    private static void imageMoreThanOnce() {
        ThreeDots x = with(0, "go 1000;delay 1;");
        x.say(0, 5, 0, false);
        x.image(true);
        List<Integer> first = seen(x);
        for (int i = 0; i < 3; i++) {
            x.minutes(10 + i);
            x.ring();
            x.image(false);
            same("again", seen(x), first);
        }
        x.minutes(7);
        List<Integer> second = seen(x);
        x.image(true);
        x.set(0, 0, 0);
        x.image(false);
        same("the latest that was taken", seen(x), second);
        x.image(false);
        same("still", seen(x), second);
    }

    // "but the TAPE, fault()"
    private static void imageLeavesTape() {
        ThreeDots x = new ThreeDots();
        x.image(true);
        tell(x, 0, "go 1/0;");
        feedAll(x, "go 5;");
        x.image(false);
        due("fault() stays", x.fault(0) * 10 + x.fault(1), 25);
        due("the TAPE stays", x.text(0), 1);
        x.image(true);
        feedAll(x, "go 5;go 6;");
        x.image(false);
        due("the TAPE is not the image's", x.text(0), 2);
        due("fault() is not the image's", x.fault(0), 0);
    }
}
