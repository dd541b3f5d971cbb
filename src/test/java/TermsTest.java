import java.util.List;
import java.util.regex.Matcher;
import java.util.regex.Pattern;

/**
 * The document's terms 1 to 3, sentence by sentence: each that names an edge (the first, the last, none, full,
 * round the clock, held to its bounds) has a method of its own, with the sentence above it.
 */
public final class TermsTest extends Due {
    public static void main(String[] args) {
        quotientsGoDownwards();
        drawsWrap();
        drawsHaveNoSign();
        crossIsHeld();
        hoursOfMinutes();
        sixtyMessages();
        sixtyBySayings();
        sixtyByAnswers();
        noRoomForOne();
        hoursRoundTheClock();
        hoursFirstLine();
        hoursBounds();
        sayingsBounds();
        habitsBounds();
        linesAtMost();
        lettersTogether();
        oneLetterMoreOrLess();
        everyTokenInEveryPlace();
        everyTokenOfTheLaw();
        digitsTogether();
        signs();
        blanks();
        faultAtTheEnd();
        firstFault();
        partByZero();
        openOnes();
        closedOnes();
        intsWrap();
        partsTowardsZero();
        conditions();
        toldAnew();
        firstLineThatIsSo();
        toldByNone();
        heldToBounds();
        facts();
        factsWhereUsed();
        finishMinutes();
        finish();
    }

    private static void finishMinutes() {
        sayingsLineByLine();
        sayingsInThisMinute();
        deletesTheLatest();
        deletesNothing();
        readAfterItsMinute();
        readInOrder();
        readByFreeOrBus();
        readAtFullHours();
        hurtThenGo();
        drawnEachTime();
        dueByDelay();
        answeredInOrder();
        answeredOnlyOnce();
        stopByCross();
        tookAtMost();
        tookOfTheOtherOne();
        tenthLess();
        tenthOnceADay();
        tenthBehindHurt();
        takingBack();
        bookLines();
        bookIsFull();
    }

    private static int asked(String law, int what) {
        ThreeDots x = with(0, law);
        x.say(0, 50, 5, true);
        return x.asks(0, what);
    }

    private static String line(ThreeDots x, int i) {
        return x.book(i, 0) + " " + x.book(i, 1) + " " + x.book(i, 2) + " " + x.book(i, 3);
    }

    private static void dueLine(ThreeDots x, int i, String want) {
        due("line " + i + " is " + line(x, i) + ", due is " + want + ": whether so", line(x, i).equals(want), true);
    }

    // "Quotients go downwards."
    private static void quotientsGoDownwards() {
        int[][] longs = {{1, 1}, {2, 2}, {3, 2}, {4, 3}, {98, 50}, {99, 50}};
        for (int[] l : longs) {
            ThreeDots x = new ThreeDots();
            x.say(0, l[0], 0, false);
            due("lasts by " + l[0], x.asks(0, 1), l[1]);
        }
    }

    // "it becomes 1664525 times itself + 1013904223 (ints, which wrap)"
    private static void drawsWrap() {
        ThreeDots x = new ThreeDots();
        int[] states = {1013904223, 1196435762, -775096599, -1426500812};
        for (int s : states) {
            x.set(0, 0, 0);
            x.say(0, 5, 0, false);
            x.minutes(2);
            due("STATE", x.look(4), s);
        }
    }

    // "then it is its highest 24 bits (without sign) modulo m"; "a DRAW of 1000: below go it is DUE"
    private static void drawsHaveNoSign() {
        // The first four draws from 0, by hand: 3960563, 4673577, 13749494, 11204947.
        int[] draws = {563, 577, 494, 947};
        int state = 0;
        for (int d : draws) {
            for (int go = d; go <= d + 1; go++) {
                ThreeDots x = with(0, "go " + go + ";delay 1;");
                x.state(state);
                x.say(0, 5, 0, false);
                x.minutes(2);
                due("a draw of " + d + " below " + go, x.message(0, 8) != NONE, go > d);
            }
            state = state * 1664525 + 1013904223;
        }
    }

    // "CROSS 0 .. 99"; "his CROSS is hurt more (0 .. 99)"
    private static void crossIsHeld() {
        int[][] hurts = {{98, 1, 99}, {99, 0, 99}, {99, 1, 99}, {50, 50, 99}, {49, 50, 99}, {48, 50, 98}, {1, -1, 0},
            {0, 0, 0}, {0, -1, 0}, {50, -50, 0}, {51, -50, 1}, {49, -50, 0}};
        for (int[] h : hurts) {
            for (int one = 0; one < 2; one++) {
                ThreeDots x = with(0, "hurt " + (h[1] < 0 ? "0" + h[1] : "" + h[1]) + ";go 0;");
                x.set(1, one, h[0]);
                x.say(1 - one, 5, 0, false);
                x.minutes(2);
                due(h[0] + " hurt by " + h[1], x.of(one, 0), h[2]);
                due("not who wrote", x.of(1 - one, 0), 10);
            }
        }
    }

    // "HOUR: MINUTE by 60 modulo 24."
    private static void hoursOfMinutes() {
        int[][] hours = {{0, 0}, {59, 0}, {60, 1}, {1379, 22}, {1380, 23}, {1439, 23}, {1440, 0}, {1500, 1}, {9999, 22}};
        ThreeDots x = new ThreeDots();
        for (int[] h : hours) {
            x.set(0, 0, h[0]);
            due("HOUR at " + h[0], x.look(2), h[1]);
        }
    }

    // "MESSAGES, 60 at most, by number"
    private static void sixtyMessages() {
        ThreeDots x = new ThreeDots();
        for (int i = 0; i < 60; i++) {
            x.say(i % 2, 1 + i, i % 10, i % 3 == 0);
        }
        due("the first", x.message(0, 3) * 100 + x.message(0, 4) * 10 + x.message(0, 5), 101);
        due("the last", x.message(59, 3) * 100 + x.message(59, 4) * 10 + x.message(59, 5), 6090);
        due("no 61st", x.say(0, 1, 1, true), NONE);
        due("the last still", x.message(59, 3), 60);
        due("no message 60", x.message(60, 3), -2);
        x.minutes(2);
        due("the last is read", x.message(59, 2), 1);
    }

    // "MESSAGES, 60 at most" for what is said by SAYINGS: "No room for a MESSAGE: it is left out."
    private static void sixtyBySayings() {
        ThreeDots x = with(2, "at 1 one 0 says 7 kisses 0;at 1 one 1 says 8 kisses 0;at 1 one 1 deletes;");
        tell(x, 0, "go 0;");
        for (int i = 0; i < 59; i++) {
            x.say(0, 5, 0, false);
        }
        due("none at 0", x.minutes(1), 0);
        due("one has room", x.minutes(1), 1);
        due("the first of both", x.message(59, 0) * 100 + x.message(59, 3), 7);
        due("1 has none to delete", x.message(59, 7), 0);
        due("59 said, one said, 59 read", x.look(3), 119);
        due("nothing of the other", x.book(59, 1) * 10 + x.book(60, 1), 1);
    }

    // "(No room for a MESSAGE: it is left out.)" for answers: TOOK is of the latest answer; DUE of one that will be.
    private static void sixtyByAnswers() {
        ThreeDots x = with(0, "go 1000;delay 1;");
        for (int i = 0; i < 58; i++) {
            x.say(i % 2, 5, 0, false);
        }
        due("two have room", x.minutes(3), 2);
        due("to the first", x.message(58, 6), 0);
        due("to the second", x.message(59, 6), 1);
        due("no third", x.message(60, 6), -2);
        for (int i = 0; i < 58; i++) {
            due("none is due any more", x.message(i, 8), NONE);
        }
        due("TOOK", x.of(0, 1) * 10 + x.of(1, 1), 22);
        due("58 said, 58 read, 2 answered", x.look(3), 118);
        due("later ones are read", x.minutes(9), 0);
        due("by whom", x.look(3), 120);
        due("no TOOK of what is left out", x.of(0, 1) * 10 + x.of(1, 1), 22);
        due("in thought, too", x.goes(999, 0), 60);
    }

    // "(No room for a MESSAGE: it is left out.)"
    private static void noRoomForOne() {
        // Read at 60 messages, due at 60: left out; there is a draw, a hurt, but no more.
        ThreeDots x = with(0, "go 1000;delay 1;hurt 1;");
        for (int i = 0; i < 60; i++) {
            x.say(0, 5, 0, false);
        }
        due("none came", x.minutes(3), 0);
        due("hurt by each", x.of(1, 0), 70);
        due("TOOK as it was", x.of(0, 1), 0);
        due("sixty said and read", x.look(3), 120);
        due("none waits less", x.pauses(1, 2), 60);
    }

    // "(from HOUR 0 .. 23, for 1 .. 24 hours, on round the clock ..; none: free.)"
    private static void hoursRoundTheClock() {
        int[][] lines = {{0, 1}, {23, 1}, {23, 2}, {22, 4}, {0, 24}, {23, 24}, {1, 23}, {12, 23}};
        for (int[] l : lines) {
            ThreeDots x = with(1, "one 1 from " + l[0] + " for " + l[1] + " sleep;");
            for (int h = 0; h < 24; h++) {
                boolean asleep = h >= l[0] && h < l[0] + l[1] || h + 24 < l[0] + l[1];
                x.set(0, 0, 60 * h);
                due("asleep at " + h + " from " + l[0] + " for " + l[1], x.of(1, 3), asleep ? 3 : 0);
                x.set(0, 0, 1440 + 60 * h + 59);
                due("the next day at " + h, x.of(1, 3), asleep ? 3 : 0);
                due("the other one is free", x.of(0, 3), 0);
            }
        }
    }

    // "the first line of several"
    private static void hoursFirstLine() {
        ThreeDots x = with(1, "one 0 from 5 for 2 bus;one 0 from 6 for 2 sleep;one 1 from 5 for 9 busy;"
            + "one 0 from 8 for 1 free;one 0 from 4 for 6 busy;");
        int[] want = {0, 0, 0, 0, 2, 1, 1, 3, 0, 2, 0};
        for (int h = 0; h < want.length; h++) {
            x.set(0, 0, 60 * h);
            due("0 at " + h, x.of(0, 3), want[h]);
            due("1 at " + h, x.of(1, 3), h >= 5 && h < 14 ? 2 : 0);
        }
    }

    // "(from HOUR 0 .. 23, for 1 .. 24 hours ..)"; "2 (at the NUMBER) .. one beyond its bounds"
    private static void hoursBounds() {
        for (String what : new String[] {"free", "bus", "busy", "sleep"}) {
            good(1, "one 0 from 0 for 1 " + what + ";", 1);
            good(1, "one 1 from 23 for 24 " + what + ";", 1);
        }
        faulty(1, "one 2 from 0 for 1 bus;", 2, 4);
        faulty(1, "one 9999 from 0 for 1 bus;", 2, 4);
        faulty(1, "one 0 from 24 for 1 bus;", 2, 11);
        faulty(1, "one 0 from 0 for 0 bus;", 2, 17);
        faulty(1, "one 0 from 0 for 25 bus;", 2, 17);
    }

    // "(MINUTE 0 .. 9999; N 1 .. 99; kisses 0 .. 9.)"
    private static void sayingsBounds() {
        good(2, "at 0 one 0 says 1 kisses 0;at 9999 one 1 says 99 kisses 9 stop;", 2);
        faulty(2, "at 10000 one 0 deletes;", 1, 3);
        faulty(2, "at 1 one 2 deletes;", 2, 9);
        faulty(2, "at 1 one 0 says 0 kisses 0;", 2, 16);
        faulty(2, "at 1 one 0 says 100 kisses 0;", 2, 16);
        faulty(2, "at 1 one 0 says 1 kisses 10;", 2, 25);
        ThreeDots x = with(2, "at 0 one 0 says 1 kisses 0;at 9999 one 1 says 99 kisses 9 stop;");
        due("at 0", x.minutes(1), 1);
        due("the least", x.message(0, 3) * 100 + x.message(0, 4) * 10 + x.message(0, 5), 100);
        x.set(0, 0, 9999);
        due("at 9999", x.minutes(1), 1);
        due("the most", x.message(0, 3) * 100 + x.message(0, 4) * 10 + x.message(0, 5), 9991);
        due("once", with(2, "at 0 one 0 deletes;").minutes(300), 0);
    }

    // "(N 1 .. 999; SIGNS 0 .. 7 as told: 8 at most.)"
    private static void habitsBounds() {
        good(3, "sign easy 1 cross 999;sign easy 999 cross 1;", 2);
        faulty(3, "sign easy 0 cross 1;", 2, 10);
        faulty(3, "sign easy 1000 cross 1;", 2, 10);
        faulty(3, "sign easy 1 cross 0;", 2, 18);
        faulty(3, "sign easy 1 cross 1000;", 2, 18);
        ThreeDots x = with(3, "sign easy 500 cross 500;".repeat(7) + "sign easy 100 cross 300;");
        due("SIGN 7 as told", x.sure(500, 128, 0), 750000);
        due("SIGN 0 as told", x.sure(500, 1, 0), 500000);
        due("waits for it", x.waits(500), 7);
    }

    // "16 lines of each at most"; "3 (at its KEYWORD) the 17th line of a text, the 9th SIGN"
    private static void linesAtMost() {
        String[] lines = {"go 1;", "one 0 from 0 for 1 bus;", "at 1 one 0 deletes;", "sign easy 5 cross 6;"};
        for (int k = 0; k < 4; k++) {
            int most = k == 3 ? 8 : 16;
            int length = most * lines[k].length();
            good(k, lines[k].repeat(most), most);
            faulty(k, lines[k].repeat(most) + "  " + lines[k], 3, length + 2);
            faulty(k, lines[k].repeat(most) + lines[k].split(" ")[0], 3, length);
            faulty(k, lines[k].repeat(most) + ";", 1, length);
            faulty(k, lines[k].repeat(most) + "when", 1, length);
        }
        // Each of the 16 lines counts: the last one is the one that is so.
        ThreeDots x = with(0, "go 1 when 1=2;".repeat(15) + "go 7;");
        x.say(0, 5, 0, false);
        due("the 16th line of THE LAW", x.asks(0, 4), 7);
        x = with(1, "one 1 from 0 for 1 bus;".repeat(15) + "one 0 from 0 for 1 busy;");
        due("the 16th line of HOURS", x.of(0, 3), 2);
        x = with(2, "at 1 one 1 deletes;".repeat(15) + "at 0 one 1 says 98 kisses 8 stop;");
        due("the 16th line of SAYINGS", x.minutes(1), 1);
        due("that one", x.message(0, 3) * 100 + x.message(0, 4) * 10 + x.message(0, 5), 9881);
        for (String word : new String[] {"delay", "lasts", "kiss", "hurt", "go"}) {
            faulty(0, "go 1;".repeat(16) + word + " 1;", 3, 80);
        }
    }

    // "letters as many as stand together are KEYWORDS (those told here for that text) or none"
    private static void lettersTogether() {
        faulty(0, "goone;", 1, 0);
        faulty(0, "g o 1;", 1, 0);
        faulty(0, "go onex;", 1, 3);
        faulty(0, "go kis;", 1, 3);
        faulty(0, "go kissess;", 1, 3);
        faulty(0, "go zone;", 1, 3);
        faulty(0, "go 1 whenz 1=1;", 1, 5);
        faulty(0, "kisses 1;", 1, 0);
        // Capitals are letters, too: what stands together with them is none.
        for (String word : new String[] {"goA", "goZ", "Ago", "Zgo", "GO", "gO", "goa", "goz", "ago", "zgo"}) {
            faulty(0, word + " 1;", 1, 0);
        }
        good(0, "kiss kisses;", 1);
        good(0, "go 1when 1=1and 2=2or not 3=3;", 1);
        // Keywords of another text are none here.
        faulty(0, "go 1;sign easy 1 cross 1;", 1, 5);
        faulty(0, "go free;", 1, 3);
        faulty(1, "one 0 from 0 for 1 stop;", 1, 19);
        faulty(1, "delay 1;", 1, 0);
        faulty(2, "at 1 one 0 says 1 kiss 0;", 1, 18);
        faulty(3, "one easy 1 cross 1;", 1, 0);
        faulty(3, "sign easy 1 long 1;", 1, 12);
    }

    // "letters as many as stand together are KEYWORDS .. or none": no keyword is cut short or stands for a longer one
    private static void oneLetterMoreOrLess() {
        String[] lines = {"delay one+cross-took*long/3 when kisses<stop and not bus=hour or (ticks>many);",
            "lasts 1;kiss 1;hurt 1;go 1;", "one 0 from 0 for 1 free;one 0 from 0 for 1 bus;one 0 from 0 for 1 busy;",
            "one 0 from 0 for 1 sleep;", "at 0 one 0 says 1 kisses 0 stop;at 0 one 0 deletes;",
            "sign easy 1 cross 1;"};
        int[] texts = {0, 0, 1, 1, 2, 3};
        for (int l = 0; l < lines.length; l++) {
            good(texts[l], lines[l], lines[l].split(";").length);
            Matcher word = Pattern.compile("[a-z]+").matcher(lines[l]);
            while (word.find()) {
                String behind = lines[l].substring(word.end());
                faulty(texts[l], lines[l].substring(0, word.end()) + "x" + behind, 1, word.start());
                faulty(texts[l], lines[l].substring(0, word.start()) + "x" + word.group() + behind, 1, word.start());
                // One letter less of "busy" is "bus", which can stand there, too.
                if (!word.group().equals("busy")) {
                    faulty(texts[l], lines[l].substring(0, word.end() - 1) + behind, 1, word.start());
                }
            }
        }
    }

    // "1 what can't stand there"; "2 (at the NUMBER) .. one beyond its bounds"
    private static void everyTokenInEveryPlace() {
        tokensInPlaces(1, "one", "0-1", "from", "0-23", "for", "1-24", "free bus busy sleep", ";");
        // "says" or "deletes", "stop" or ";": the other one can stand there, too, but changes what comes behind.
        tokensInPlaces(2, "at", "0-9999", "one", "0-1", "deletes (says)", ";");
        tokensInPlaces(2, "at", "0-9999", "one", "0-1", "says (deletes)", "1-99", "kisses", "0-9", "stop (;)", ";");
        tokensInPlaces(2, "at", "0-9999", "one", "0-1", "says (deletes)", "1-99", "kisses", "0-9", "; (stop)");
        tokensInPlaces(3, "sign", "easy", "1-999", "cross", "1-999", ";");
    }

    /** Each place tells its words, or the bounds of its number; words in brackets are left out of the trial. */
    private static void tokensInPlaces(int k, String... places) {
        String[] tokens = ("one from for free bus busy sleep at says kisses stop deletes sign easy cross delay go when "
            + "not many long x 0 1 2 3 4 5 6 7 9 10 23 24 25 99 100 999 1000 9999 00000 00003 10000 "
            + "; + - * / ( ) < = > , ?").split(" ");
        for (int at = 0; at < places.length; at++) {
            StringBuilder ahead = new StringBuilder();
            StringBuilder behind = new StringBuilder();
            for (int i = 0; i < places.length; i++) {
                (i < at ? ahead : i > at ? behind : new StringBuilder()).append(' ').append(places[i].split("[ -]")[0]);
            }
            List<String> words = List.of(places[at].replaceAll("[()]", "").split(" "));
            for (String token : tokens) {
                String text = ahead + " " + token + behind;
                int place = ahead.length() + 1;
                boolean number = token.length() < 5 && token.matches("\\d+");
                if (places[at].contains("(" + token + ")")) {
                    continue;
                }
                if (places[at].contains("-") && number) {
                    String[] bounds = places[at].split("-");
                    int v = Integer.parseInt(token);
                    if (v < Integer.parseInt(bounds[0]) || v > Integer.parseInt(bounds[1])) {
                        faulty(k, text, 2, place);
                    } else {
                        good(k, text, 1);
                    }
                } else if (words.contains(token)) {
                    good(k, text, 1);
                } else {
                    faulty(k, text, 1, place);
                }
            }
        }
    }

    // "B = A {or A}.  A = C {and C}. .. E = T {(+ | -) T}.  T = U {* U | / NUMBER}."; "1 what can't stand there"
    private static void everyTokenOfTheLaw() {
        String words = "delay lasts kiss hurt go";
        String operands = "one cross took long kisses stop bus hour ticks many 0 7 9999";
        String singles = operands + " not (";
        lawGoesOn("", words);
        lawGoesOn("go 1 ;", words);
        for (String word : words.split(" ")) {
            lawGoesOn(word, operands);
        }
        for (String sign : new String[] {"+", "-", "*", "/ 2 *"}) {
            lawGoesOn("go 1 " + sign, operands);
            lawGoesOn("go 1 when 1 " + sign, operands);
            lawGoesOn("go 1 when 1 = 2 " + sign, operands);
        }
        for (String part : new String[] {"go 1 /", "go many * 2 /", "go 1 when 1 /", "go 1 when 1 < many /"}) {
            lawGoesOn(part, "7 9999");
        }
        for (String operand : new String[] {"1", "many", "1 + 2", "1 * one", "1 / 2", "1 / 2 / 2"}) {
            lawGoesOn("go " + operand, "+ - * / when ;");
            lawGoesOn("go 1 when " + operand, "+ - * / < = >");
            lawGoesOn("go 1 when ( not " + operand, "+ - * / < = >");
            lawGoesOn("go 1 when 1 > " + operand, "+ - * / and or ;");
            lawGoesOn("go 1 when not 1 > " + operand, "+ - * / and or ;");
            lawGoesOn("go 1 when ( 1 > " + operand, "+ - * / and or )");
        }
        for (String open : new String[] {"when", "when not", "when (", "when not (", "when ( not", "when 1 = 1 and",
                "when 1 = 1 or", "when ( 1 = 1 ) and", "when ( 1 = 1 or"}) {
            lawGoesOn("go 1 " + open, singles);
        }
        for (String sign : new String[] {"<", "=", ">"}) {
            lawGoesOn("go 1 when 1 " + sign, operands);
        }
        lawGoesOn("go 1 when ( 1 = 1 )", "and or ;");
        lawGoesOn("go 1 when not ( 1 = 1 )", "and or ;");
        lawGoesOn("go 1 when ( ( 1 = 1 )", "and or )");
    }

    /** What can stand behind the beginning of a law, and of all else that it can't. */
    private static void lawGoesOn(String ahead, String allowed) {
        String[] tokens = ("delay lasts kiss hurt go when or and not one cross took long kisses stop bus hour ticks many "
            + "from free says sign 0 7 9999 00000 10000 ; + - * / ( ) < = > , ?").split(" ");
        List<String> can = List.of(allowed.split(" "));
        for (String token : tokens) {
            String text = ahead + " " + token;
            if (!can.contains(token)) {
                faulty(0, text, token.equals("0") && ahead.endsWith("/") ? 2 : 1, ahead.length() + 1);
            } else if (token.equals(";")) {
                good(0, text, 1);
            } else {
                faulty(0, text, 1, text.length());
            }
        }
    }

    // "digits as many as stand together NUMBERS of 1 to 4 digits or none"
    private static void digitsTogether() {
        good(0, "go 0;", 1);
        good(0, "go 9999;", 1);
        good(0, "go 0009;", 1);
        faulty(0, "go 00009;", 1, 3);
        faulty(0, "go 10000;", 1, 3);
        faulty(0, "go 1 2;", 1, 5);
        faulty(0, "go 1/00000;", 1, 5);
        faulty(0, "go 1 00590", 1, 5);
        good(0, "go 1/0001;", 1);
        good(1, "one0from0023for0024bus;", 1);
        due("four digits", asked("hurt 9999-9950;", 3), 49);
        due("0009", asked("hurt 0009;", 3), 9);
    }

    // "; + - * / ( ) < = >" are tokens each; nothing else is.
    private static void signs() {
        good(0, "go 1+2-3*4/5 when(1<2)and(2=2)or(3>2);", 1);
        for (char c : new char[] {'.', ',', ':', '!', '?', '_', '%', '&', '[', '{', '|', '"', 1, 31, 127, 128, 255}) {
            faulty(0, "go 1" + c + ";", 1, 4);
            faulty(0, c + "go 1;", 1, 0);
            faulty(3, "sign easy" + c + "1 cross 1;", 1, 9);
        }
        faulty(0, "go 1 when 1<=2;", 1, 12);
        faulty(0, "go 1 when 1==2;", 1, 12);
        faulty(0, "go 1++1;", 1, 5);
        faulty(0, "go 1;;", 1, 5);
    }

    // "Blanks (32, 10) between."
    private static void blanks() {
        good(0, " \n go \n 1 \n + \n 2 \n ; \n ", 1);
        good(0, "", 0);
        good(1, " ", 0);
        good(2, "\n", 0);
        good(3, " \n".repeat(200), 0);
        for (char c : new char[] {0, 9, 11, 12, 13, 160}) {
            faulty(0, "go" + c + "1;", 1, 2);
        }
        faulty(0, "go 1 0;", 1, 5);
        faulty(0, "de lay 1;", 1, 0);
    }

    // "1 what can't stand there (the end: the text's length)"
    private static void faultAtTheEnd() {
        String[] whole = {"go 1 when (1=1);", "one 0 from 0 for 1 bus;", "at 1 one 0 says 1 kisses 1 stop;",
            "sign easy 1 cross 1;"};
        for (int k = 0; k < 4; k++) {
            String[] words = whole[k].split("(?<=[ ();=])");
            StringBuilder part = new StringBuilder();
            for (int i = 0; i < words.length - 1; i++) {
                part.append(words[i]);
                faulty(k, part.toString(), 1, part.length());
            }
            good(k, whole[k], 1);
            faulty(k, whole[k].substring(0, whole[k].length() - 1) + " \n ", 1, whole[k].length() + 2);
        }
        faulty(0, "go 1" + " ".repeat(396), 1, 400);
        // The last byte there can be: a word, a part of a longer one, a number, a sign.
        faulty(0, " ".repeat(396) + "kiss", 1, 400);
        faulty(0, " ".repeat(397) + "kis", 1, 397);
        faulty(1, "\n".repeat(397) + "one", 1, 400);
        faulty(1, "one 0 from 0 for 1" + " ".repeat(379) + "bus", 1, 400);
        faulty(0, "go" + " ".repeat(394) + "9999", 1, 400);
        faulty(0, "go" + " ".repeat(393) + "99999", 1, 395);
        good(0, "go" + " ".repeat(396) + "1;", 1);
        // As many tokens as 400 bytes can have: whole, and without their end.
        good(0, "go1" + "+1".repeat(198) + ";", 1);
        faulty(0, "go1" + "+1".repeat(198) + "+", 1, 400);
        faulty(0, "go" + "1+".repeat(199), 1, 400);
        due("a sum of 199", asked("go1" + "+1".repeat(198) + ";", 4), 199);
    }

    // "FAULTS, the first by its place, at one place the least"
    private static void firstFault() {
        faulty(0, "go 1/0 go;", 2, 5);
        faulty(0, "go go 1/0;", 1, 3);
        faulty(1, "one 2 from 24 for 0 bus;", 2, 4);
        faulty(1, "one 0 from x for 0 bus;", 1, 11);
        faulty(0, "go 1;".repeat(16) + "go 1/0;", 3, 80);
        faulty(0, "go 1;".repeat(15) + "go 1/0;go 1;", 2, 80);
        faulty(0, "go 1 when " + "(".repeat(9) + "1/0=1", 3, 18);
        faulty(0, "go 1/0 when " + "(".repeat(9), 2, 5);
        // A number of five digits is none: 1, not 2, though it is beyond, too.
        faulty(1, "one 00002 from", 1, 4);
        faulty(1, "one 0 from 12345 for", 1, 11);
    }

    // "2 (at the NUMBER) a part by 0"
    private static void partByZero() {
        faulty(0, "go 1/0;", 2, 5);
        faulty(0, "go 1 / 0000;", 2, 7);
        faulty(0, "go 1 when 8/2/0=1;", 2, 14);
        faulty(0, "go 1*2/ 0;", 2, 8);
        faulty(0, "go 1/one;", 1, 5);
        faulty(0, "go 1/(2);", 1, 5);
        faulty(0, "go 1/;", 1, 5);
        good(0, "go 0/1*0;", 1);
        due("by 1", asked("go 7/1;", 4), 7);
        due("by 9999", asked("go 9999/9999+9998/9999;", 4), 1);
    }

    // "(at it) the 9th ( or not that is open"
    private static void openOnes() {
        good(0, "go 1 when " + "(".repeat(8) + "1=1" + ")".repeat(8) + ";", 1);
        faulty(0, "go 1 when " + "(".repeat(9) + "1=1" + ")".repeat(9) + ";", 3, 18);
        good(0, "go 1 when " + "not ".repeat(8) + "1=1;", 1);
        faulty(0, "go 1 when " + "not ".repeat(9) + "1=1;", 3, 42);
        good(0, "go 1 when " + "not(".repeat(4) + "1=1" + ")".repeat(4) + ";", 1);
        faulty(0, "go 1 when " + "not(".repeat(4) + "not 1=1" + ")".repeat(4) + ";", 3, 26);
        faulty(0, "go 1 when " + "not(".repeat(4) + "(1=1)" + ")".repeat(4) + ";", 3, 26);
        faulty(0, "go 1 when " + "(1=1 or not ".repeat(4) + "(1=1", 3, 58);
        // Told of eight that are open: each turns it round.
        due("eight nots", asked("go 1 when " + "not ".repeat(8) + "1=1;go 2;", 4), 1);
        due("seven nots", asked("go 1 when " + "not ".repeat(7) + "1=1;go 2;", 4), 2);
        due("four not (", asked("go 1 when " + "not(".repeat(4) + "1=1" + ")".repeat(4) + ";go 2;", 4), 1);
    }

    // A not is open up to the end of what it stands before, a ( up to its ).
    private static void closedOnes() {
        good(0, "go 1 when " + "not 1=1 and ".repeat(9) + "not 1=1;", 1);
        good(0, "go 1 when " + "(1=1)or".repeat(9) + "(1=1);", 1);
        good(0, "go 1 when " + "(".repeat(7) + "(1=1)or(1=1)and not 1=1" + ")".repeat(7) + ";", 1);
        good(0, "go 1 when " + "(".repeat(7) + "not 1=1 and not 2=2 or not 1=2" + ")".repeat(7) + ";", 1);
        faulty(0, "go 1 when " + "(".repeat(7) + "not 1=1 and not not 1=1" + ")".repeat(7) + ";", 3, 33);
        good(0, "go 1 when " + "not ".repeat(8) + "1=1 or " + "not ".repeat(8) + "1=1;", 1);
        // The next line begins with none open.
        good(0, ("go 1 when " + "(".repeat(8) + "1=1" + ")".repeat(8) + ";").repeat(2), 2);
    }

    // "Ints, which wrap"
    private static void intsWrap() {
        // 9999 * 9999 * 21 is 2099580021, once more is 2199560022: beyond an int.
        due("not yet", asked("go 9999*9999*21;", 4), 1000);
        due("a product wraps", asked("go 9999*9999*22;", 4), 0);
        due("a sum wraps", asked("go 9999*9999*21+9999*9999;", 4), 0);
        due("a difference wraps", asked("go 0-9999*9999*21-9999*9999;", 4), 1000);
        due("below, if wrapped", asked("go 7 when 9999*9999*22<0;go 8;", 4), 7);
        due("compared as ints", asked("go 7 when 9999*9999*22<0-9999*9999*20;go 8;", 4), 7);
        due("not by their difference", asked("go 7 when 9999*9999*21>0-9999*9999*21;go 8;", 4), 7);
    }

    // "/ goes towards 0"
    private static void partsTowardsZero() {
        // 9999 * 9999 * 22 wraps to -2095407274; by 9999 that is -209561 and a rest.
        due("below 0", asked("hurt 9999*9999*22/9999+9999*20+9581;", 3), 0);
        due("above 0", asked("hurt 7/2;", 3), 3);
        due("each part at once", asked("hurt 7/2/2;", 3), 1);
        due("from the left", asked("hurt 7/2*2;", 3), 6);
        due("from the left", asked("hurt 2*7/2;", 3), 7);
    }

    // "B = A {or A}.  A = C {and C}.  C = E (< | = | >) E | not C | ( B )."
    private static void conditions() {
        for (int bits = 0; bits < 8; bits++) {
            boolean a = (bits & 1) != 0;
            boolean b = (bits & 2) != 0;
            boolean c = (bits & 4) != 0;
            String[] shapes = {"A", "not A", "(A)", "A or B", "A and B", "A or (B)", "A and (B)", "(A) or B", "(A) and B",
                "A or B and C", "A and B or C", "(A or B) and C", "A and (B or C)", "A or (B and C)", "(A and B) or C",
                "not A or B", "not A and B", "not (A or B)", "not (A and B)", "A or not B", "A and not (B or C)",
                "A or not (B and C)", "not (A) or (not B and C)", "A or B or C", "A and B and C", "not not A and B",
                "(A or (B and (C or A)))", "A and (B or (C and not A))"};
            boolean[] want = {a, !a, a, a || b, a && b, a || b, a && b, a || b, a && b,
                a || b && c, a && b || c, (a || b) && c, a && (b || c), a || b && c, a && b || c,
                !a || b, !a && b, !(a || b), !(a && b), a || !b, a && !(b || c),
                a || !(b && c), !a || !b && c, a || b || c, a && b && c, a && b,
                a || b && (c || a), a && (b || c && !a)};
            for (int i = 0; i < shapes.length; i++) {
                String told = shapes[i].replace("A", a ? "1=1" : "1>1").replace("B", b ? "1<2" : "2<2")
                    .replace("C", c ? "3>2" : "2=3");
                due(told, asked("go 1 when " + told + ";go 2;", 4), want[i] ? 1 : 2);
            }
        }
    }

    // "The TAPE, empty then, is TEXT k"
    private static void toldAnew() {
        // A text told again has all its room again, and nothing of the one ahead of it is left.
        ThreeDots x = new ThreeDots();
        x.say(0, 50, 5, true);
        for (int i = 0; i < 4; i++) {
            tell(x, 0, "go1" + "+1".repeat(198) + ";");
            due("a sum of 199", x.asks(0, 4), 199);
            tell(x, 0, "go 1 when 1=2" + " or 1=2".repeat(40) + " or 1=1;go 2;");
            due("a long condition", x.asks(0, 4), 1);
            tell(x, 0, "go 1 when 1=2" + " or 1=2".repeat(40) + ";go 2;");
            due("the same, not so", x.asks(0, 4), 2);
            tell(x, 0, "go 7;");
            due("a short one", x.asks(0, 4), 7);
            due("a fault in between", tell(x, 0, "go 8+9"), NONE);
            due("leaves it", x.asks(0, 4), 7);
            due("none", tell(x, 0, "") * 1000 + x.asks(0, 4), 900);
        }
    }

    // "E of the first line with that word whose B is so, or that has none"
    private static void firstLineThatIsSo() {
        due("the first", asked("go 1;go 2;", 4), 1);
        due("the first that is so", asked("go 1 when long=49;go 2 when long=50;go 3;", 4), 2);
        due("that has none", asked("go 1 when long=49;go 2;go 3 when long=50;", 4), 2);
        due("with that word", asked("delay 1;lasts 2;kiss 3;hurt 4;go 5;", 4), 5);
        for (int w = 0; w < 5; w++) {
            due("word " + w, asked("delay 1;lasts 2;kiss 3;hurt 4;go 5;", w), w + 1);
        }
        due("< is not =", asked("go 1 when long<50;go 2;", 4), 2);
        due("> is not =", asked("go 1 when long>50;go 2;", 4), 2);
        due("<", asked("go 1 when long<51;go 2;", 4), 1);
        due(">", asked("go 1 when long>49;go 2;", 4), 1);
    }

    // "(none: delay: took, lasts: long by 2 and 1, kiss: kisses, hurt: 5 times stop, go 900)"
    private static void toldByNone() {
        String none = "delay 5 when 1=2;lasts 5 when 1=2;kiss 5 when 1=2;hurt 5 when 1=2;go 5 when 1=2;";
        for (String law : new String[] {"", none}) {
            ThreeDots x = with(0, law);
            x.set(2, 1, 77);
            x.say(0, 51, 8, true);
            x.say(0, 51, 8, false);
            due("delay", x.asks(0, 0), 77);
            due("lasts", x.asks(0, 1), 26);
            due("kiss", x.asks(0, 2), 8);
            due("hurt", x.asks(0, 3), 5);
            due("hurt without a stop", x.asks(1, 3), 0);
            due("go", x.asks(0, 4), 900);
        }
        // Held, too: TOOK 0 and TOOK 9999.
        ThreeDots x = new ThreeDots();
        x.say(0, 5, 0, false);
        due("TOOK 0", x.asks(0, 0), 1);
        int[][] tooks = {{1, 1}, {2, 2}, {999, 999}, {1000, 999}, {9999, 999}};
        for (int[] t : tooks) {
            x.set(2, 1, t[0]);
            due("TOOK " + t[0], x.asks(0, 0), t[1]);
        }
    }

    // "delay held to 1 .. 999, lasts to 1 .. 99, kiss to 0 .. 9, hurt to -50 .. 50, go to 0 .. 1000"
    private static void heldToBounds() {
        String[] words = {"delay", "lasts", "kiss", "hurt", "go"};
        int[][] bounds = {{1, 999}, {1, 99}, {0, 9}, {-50, 50}, {0, 1000}};
        for (int w = 0; w < 5; w++) {
            int least = bounds[w][0];
            int most = bounds[w][1];
            for (int v : new int[] {least - 1000, least - 1, least, least + 1, most - 1, most, most + 1, most + 1000}) {
                String sum = v < 0 ? "0-" + -v : "" + v;
                due(words[w] + " " + v, asked(words[w] + " " + sum + ";", w), Math.max(least, Math.min(most, v)));
            }
        }
    }

    // "bus: 1, if he is on a bus this HOUR, else 0; hour; ticks: the other one's TICKS; many: how many MESSAGES"
    private static void facts() {
        String[] doing = {"free", "bus", "busy", "sleep"};
        for (int d = 0; d < 4; d++) {
            ThreeDots x = with(1, "one 1 from 0 for 1 " + doing[d] + ";one 0 from 0 for 1 bus;");
            tell(x, 0, "hurt 0-bus;");
            x.say(0, 5, 0, false);
            due("bus, if he is " + doing[d], x.asks(0, 3), d == 1 ? -1 : 0);
            x.set(0, 0, 60);
            x.say(0, 5, 0, false);
            due("not in another HOUR", x.asks(0, 3), 0);
        }
        ThreeDots x = with(0, "delay many+1;lasts hour+1;kiss ticks;hurt 0-one;go cross;");
        x.set(0, 0, 1439);
        x.set(3, 0, 0);
        x.say(0, 5, 0, false);
        x.say(1, 5, 0, false);
        x.takeBack(1);
        due("many: back ones, too", x.asks(0, 0), 3);
        due("hour 23", x.asks(0, 1), 24);
        due("ticks of the other one: 0's", x.asks(0, 2), 0);
        due("ticks of the other one: 1's", x.asks(1, 2), 1);
        due("one 1", x.asks(0, 3), -1);
        due("one 0", x.asks(1, 3), 0);
        x.set(1, 0, 99);
        due("cross of who it goes to", x.asks(0, 4) * 100 + x.asks(1, 4), 1099);
    }

    // "one; cross: CROSS; took: TOOK; long, kisses, stop: the MESSAGE's; bus ..; hour; ticks ..; many": where each
    // word is asked for, as minutes go by and in thought
    private static void factsWhereUsed() {
        String[] names = {"one", "cross", "took", "long", "kisses", "stop", "bus", "hour", "ticks", "many"};
        for (int reader = 0; reader < 2; reader++) {
            for (int bits = 0; bits < 8; bits++) {
                int[] values = {reader, 37, 23, 41, 6, bits & 1, bits >> 1 & 1, 5, bits >> 2, 3};
                for (int f = 0; f < names.length; f++) {
                    whereUsed(names[f], values[f], reader, bits);
                }
            }
        }
    }

    /** At 303 the third message is sent to the reader; it is read at 304, and all is told by one fact. */
    private static ThreeDots sentToReader(String law, int reader, int bits) {
        ThreeDots x = with(0, law);
        tell(x, 1, "one " + reader + " from 5 for 1 " + ((bits & 2) != 0 ? "bus;" : "free;")
            + "one " + (1 - reader) + " from 5 for 1 " + ((bits & 2) != 0 ? "free;" : "bus;"));
        x.set(0, 0, 303);
        x.set(1, reader, 37);
        x.set(1, 1 - reader, 61);
        x.set(2, reader, 23);
        x.set(2, 1 - reader, 7);
        x.set(3, 1 - reader, bits >> 2);
        x.set(3, reader, 1 - (bits >> 2));
        for (int i = 0; i < 2; i++) {
            x.say(reader, 9, 9, (bits & 1) == 0);
            x.takeBack(i);
        }
        x.say(1 - reader, 41, 6, (bits & 1) != 0);
        return x;
    }

    private static void whereUsed(String fact, int v, int reader, int bits) {
        String of = fact + " " + v + " for " + reader + ": ";
        String when = " when " + fact + "=" + v + ";";
        ThreeDots x = sentToReader("hurt " + fact + "-20;go 0;", reader, bits);
        due(of + "hurt in thought", x.goes(2, 2 + reader), 37 + v - 20);
        x.minutes(2);
        due(of + "hurt", x.of(reader, 0), 37 + v - 20);
        x = sentToReader("delay " + fact + "+1;go 1000;hurt 0;", reader, bits);
        due(of + "not yet answered in thought", x.goes(v + 2, 0), 3);
        due(of + "answered in thought", x.goes(v + 3, 0), 4);
        x.minutes(2);
        due(of + "delay", x.message(2, 8), 304 + v + 1);
        x = sentToReader("go 1000" + when + "go 0;hurt 0;delay 9;", reader, bits);
        due(of + "go in thought", x.goes(11, 0), 4);
        x.minutes(2);
        due(of + "go", x.message(2, 8), 313);
        x = sentToReader("lasts " + fact + "+1;kiss 7" + when + "kiss 2;go 1000;delay 1;hurt 0;", reader, bits);
        x.minutes(3);
        due(of + "lasts", x.message(3, 3), v + 1);
        due(of + "kiss", x.message(3, 4), 7);
    }

    // "(a) Line by line of SAYINGS for it: says: a MESSAGE of his that answers none"
    private static void sayingsLineByLine() {
        ThreeDots x = with(2, "at 1 one 0 deletes;at 1 one 0 says 3 kisses 1;at 2 one 1 says 9 kisses 9;"
            + "at 1 one 1 says 4 kisses 2 stop;at 1 one 0 says 5 kisses 3;at 1 one 0 deletes;");
        tell(x, 0, "go 0;");
        due("minute 0", x.minutes(1), 0);
        due("minute 1", x.minutes(1), 3);
        dueLine(x, 0, "1 0 0 0");
        dueLine(x, 1, "1 0 1 1");
        dueLine(x, 2, "1 0 0 2");
        dueLine(x, 3, "1 3 0 2");
        due("no more lines", x.look(3), 4);
        due("the first is not back", x.message(0, 7), 0);
        due("answers none", x.message(0, 6) + x.message(1, 6) + x.message(2, 6), -3);
        due("minute 2", x.minutes(1), 1);
    }

    // "Line by line of SAYINGS for it": for the MINUTE that is now, not ahead of it, not behind it
    private static void sayingsInThisMinute() {
        // In the MINUTE that is now, in the next, in the last one that goes by; not in the one behind it.
        for (int minute : new int[] {0, 7, 239, 240, 1439, 5000}) {
            for (int late : new int[] {0, 1, 2, 298, 299, 300}) {
                ThreeDots x = with(2, "at " + (minute + late) + " one 1 says 3 kisses 0;");
                tell(x, 0, "go 0;");
                x.set(0, 0, minute);
                due("in thought", x.goes(300, 0), late < 300 ? 1 : 0);
                due("in thought, just so far", x.goes(late + 1, 0), 1);
                due("goes by", x.minutes(300), late < 300 ? 1 : 0);
                due("SENT", x.message(0, 1), late < 300 ? minute + late : -2);
                due("none comes again", x.minutes(300), late < 300 ? 0 : 1);
            }
            // Nothing else goes on: two in a row.
            ThreeDots x = with(2, "at " + (minute + 1) + " one 1 deletes;at " + (minute + 2) + " one 1 says 3 kisses 0;"
                + "at " + (minute + 3) + " one 1 deletes;");
            x.set(0, 0, minute);
            due("one came", x.minutes(100), 1);
            due("said, and taken back ahead of its reading", x.look(3) * 10 + x.message(0, 7), 21);
        }
    }

    // "deletes: his latest MESSAGE that is not READ nor BACK is BACK"
    private static void deletesTheLatest() {
        ThreeDots x = with(2, "at 1 one 0 deletes;at 1 one 0 deletes;");
        tell(x, 1, "one 1 from 0 for 24 sleep;");
        for (int i = 0; i < 4; i++) {
            x.say(0, 5, 0, false);
            x.say(1, 5, 0, false);
        }
        x.takeBack(6);
        x.minutes(2);
        for (int i = 0; i < 8; i++) {
            due("back " + i, x.message(i, 7), i == 6 || i == 4 || i == 2 ? 1 : 0);
        }
        x = with(2, "at 2 one 0 deletes;");
        tell(x, 0, "go 0;");
        x.say(0, 5, 0, false);
        x.minutes(2);
        x.say(0, 5, 0, false);
        x.minutes(1);
        due("not the one that is read", x.message(0, 7) * 10 + x.message(1, 7), 1);
    }

    // "(none: nothing)"
    private static void deletesNothing() {
        ThreeDots x = with(2, "at 0 one 0 deletes;at 2 one 0 deletes;");
        tell(x, 0, "go 0;");
        x.say(1, 5, 0, false);
        x.minutes(1);
        due("only the other one's", x.message(0, 7) * 10 + x.look(3), 1);
        x.say(0, 5, 0, false);
        x.takeBack(1);
        x.minutes(3);
        due("only one that is back: no line", x.look(3), 4);
    }

    // "(b) MESSAGE by MESSAGE that .. was SENT ahead of this MINUTE"
    private static void readAfterItsMinute() {
        ThreeDots x = with(2, "at 3 one 1 says 5 kisses 0;");
        tell(x, 0, "go 1000;delay 1;");
        x.say(0, 5, 0, false);
        x.minutes(1);
        due("not in the MINUTE in which it was SENT", x.message(0, 2), NONE);
        x.minutes(1);
        due("in the next", x.message(0, 2), 1);
        x.minutes(1);
        due("answered at 2", x.message(1, 1), 2);
        due("the answer is not read at 2", x.message(1, 2), NONE);
        x.minutes(1);
        due("but at 3", x.message(1, 2), 3);
        due("said at 3: not read", x.message(2, 1) * 10 + x.message(2, 2), 29);
        x.minutes(1);
        due("but at 4", x.message(2, 2), 4);
    }

    // "(b) MESSAGE by MESSAGE"
    private static void readInOrder() {
        // The second is read by the CROSS that the first one left, and so on; each one's own.
        ThreeDots x = with(0, "hurt 5 when cross=10;hurt 7 when cross=15;hurt 11;go 0;");
        x.say(0, 5, 0, false);
        x.say(1, 5, 0, false);
        x.say(0, 5, 0, false);
        x.minutes(2);
        due("10, 15, 22", x.of(1, 0), 22);
        due("10, 15", x.of(0, 0), 15);
        dueLine(x, 3, "1 1 1 0");
        dueLine(x, 4, "1 1 0 1");
        dueLine(x, 5, "1 1 1 2");
    }

    // "is who it goes to free or on a bus this HOUR, it is READ"
    private static void readByFreeOrBus() {
        String[] doing = {"free", "bus", "busy", "sleep"};
        for (int d = 0; d < 4; d++) {
            for (int one = 0; one < 2; one++) {
                ThreeDots x = with(1, "one " + one + " from 0 for 1 " + doing[d] + ";one " + (1 - one)
                    + " from 0 for 1 " + doing[3 - d] + ";");
                x.say(1 - one, 5, 0, false);
                x.minutes(30);
                due("read by one who is " + doing[d], x.message(0, 2), d < 2 ? 1 : NONE);
            }
        }
    }

    // "free or on a bus this HOUR"
    private static void readAtFullHours() {
        // Asleep up to the last minute of an hour, awake with the first of the next; also over midnight.
        int[][] sleeps = {{0, 1, 0, 60}, {0, 2, 0, 120}, {22, 3, 1380, 1500}, {23, 1, 1380, 1440}, {1, 22, 60, 1380}};
        for (int[] s : sleeps) {
            for (int one = 0; one < 2; one++) {
                ThreeDots x = with(1, "one " + one + " from " + s[0] + " for " + s[1] + " sleep;");
                tell(x, 0, "go 0;");
                x.set(0, 0, s[2]);
                x.say(1 - one, 5, 0, false);
                for (int left = 1500; left > 0; left -= 300) {
                    x.minutes(300);
                }
                due("read when awake", x.message(0, 2), s[3]);
            }
        }
        ThreeDots x = with(1, "one 0 from 0 for 24 busy;one 1 from 0 for 24 sleep;");
        x.say(0, 5, 0, false);
        x.say(1, 5, 0, false);
        for (int i = 0; i < 10; i++) {
            x.minutes(300);
        }
        due("never", x.message(0, 2) + x.message(1, 2), -2);
        due("still answered by none", x.look(1), 2);
        // Sixty wait for one who sleeps, while the other one is awake; and the other way round.
        for (int one = 0; one < 2; one++) {
            x = with(1, "one " + one + " from 0 for 5 sleep;");
            tell(x, 0, "go 0;hurt 0;");
            for (int i = 0; i < 60; i++) {
                x.say(1 - one, 5, 0, false);
            }
            due("none is hurt", x.goes(299, 2 + one), 9);
            x.minutes(300);
            due("not yet", x.message(0, 2) + x.message(59, 2), 2 * NONE);
            x.minutes(1);
            due("then all", x.message(0, 2) * 1000 + x.message(59, 2), 300300);
        }
        // Awake from 1 on: what is said at 30 by both is read at 60.
        x = with(1, "one 0 from 0 for 1 busy;one 1 from 0 for 1 sleep;");
        tell(x, 0, "go 0;");
        x.set(0, 0, 30);
        x.say(0, 5, 0, false);
        x.say(1, 5, 0, false);
        x.minutes(100);
        due("both at 60", x.message(0, 2) * 100 + x.message(1, 2), 6060);
    }

    // "(hurt, then go and delay by CROSS as it is then)"
    private static void hurtThenGo() {
        ThreeDots x = with(0, "hurt 7;go 1000 when cross=17;go 0;delay cross;");
        x.say(0, 5, 0, false);
        x.minutes(2);
        due("due by 17", x.message(0, 8), 18);
        // By CROSS as it is held.
        x = with(0, "hurt 50;go 1000 when cross=99;go 0;delay cross;");
        x.set(1, 1, 98);
        x.say(0, 5, 0, false);
        x.minutes(2);
        due("due by 99", x.message(0, 8), 100);
    }

    // "then a DRAW of 1000": one for each that is read, whatever go is; none else.
    private static void drawnEachTime() {
        for (int go : new int[] {0, 500, 1000}) {
            ThreeDots x = with(0, "go " + go + ";delay 999;");
            x.say(0, 5, 0, false);
            x.say(1, 5, 0, false);
            x.minutes(1);
            due("no draw without reading", x.look(4), 0);
            x.minutes(1);
            due("two draws", x.look(4), 1196435762);
            x.minutes(50);
            due("no more", x.look(4), 1196435762);
        }
        ThreeDots x = with(0, "go 1000;delay 1;");
        x.say(0, 5, 0, false);
        x.takeBack(0);
        x.minutes(10);
        due("what is back is not read: no draw", x.look(4), 0);
    }

    // "below go it is DUE delay minutes later"
    private static void dueByDelay() {
        for (int delay : new int[] {1, 2, 998, 999}) {
            ThreeDots x = with(0, "go 1000;delay " + delay + ";");
            x.say(0, 5, 0, false);
            x.minutes(2);
            due("DUE", x.message(0, 8), 1 + delay);
            for (int left = delay - 1; left > 0; left -= 300) {
                x.minutes(Math.min(left, 300));
            }
            due("not ahead of it", x.look(1) * 1000 + x.look(0), 2000 - 1000 + delay + 1);
            due("in that MINUTE", x.minutes(1), 1);
            due("SENT", x.message(1, 1), 1 + delay);
            due("DUE: none", x.message(0, 8), NONE);
        }
    }

    // "(c) MESSAGE by MESSAGE that is DUE this MINUTE: it is answered"
    private static void answeredInOrder() {
        ThreeDots x = with(0, "go 1000;delay long;lasts many;kiss kisses+1;");
        x.say(0, 9, 0, false);
        x.say(1, 4, 1, false);
        x.say(0, 4, 2, false);
        x.minutes(6);
        due("two at 5", x.look(1), 5);
        due("to 1 first", x.message(3, 6) * 10 + x.message(4, 6), 12);
        due("by whom", x.message(3, 0) * 10 + x.message(4, 0), 1);
        due("lasts: many as it is then", x.message(3, 3) * 10 + x.message(4, 3), 34);
        due("kiss", x.message(3, 4) * 10 + x.message(4, 4), 23);
        dueLine(x, 6, "5 2 0 3");
        dueLine(x, 7, "5 2 1 4");
    }

    // "DUE (the MINUTE at which it will be answered, or none)"
    private static void answeredOnlyOnce() {
        ThreeDots x = with(0, "go 1000 when kisses=9;go 0;delay 3;kiss 0;");
        x.say(0, 5, 9, false);
        due("one answer", x.minutes(300), 1);
        due("no more", x.minutes(300), 0);
    }

    // "STOP 1, if his CROSS is 50 at least"
    private static void stopByCross() {
        for (int cross : new int[] {0, 49, 50, 99}) {
            for (int one = 0; one < 2; one++) {
                ThreeDots x = with(0, "go 1000;delay 1;hurt 0;");
                x.set(1, one, cross);
                x.set(1, 1 - one, 99 - cross);
                x.say(1 - one, 5, 0, true);
                x.minutes(3);
                due("STOP by CROSS " + cross, x.message(1, 5), cross >= 50 ? 1 : 0);
            }
        }
    }

    // "the other one's TOOK is this MINUTE less that at which it was SENT (9999 at most)"
    private static void tookAtMost() {
        for (int late : new int[] {8, 9, 10, 11}) {
            ThreeDots x = with(0, "go 1000;delay " + late + ";");
            tell(x, 1, "one 1 from 0 for 24 sleep;");
            x.say(0, 5, 0, false);
            for (int i = 0; i < 33; i++) {
                x.minutes(300);
            }
            x.minutes(90);
            tell(x, 1, "");
            x.minutes(late + 1);
            due("SENT", x.message(1, 1), 9990 + late);
            due("TOOK", x.of(0, 1), Math.min(9999, 9990 + late));
            due("the pause is whole", x.pauses(1, 0), 9990 + late);
        }
    }

    // "TOOK .. (how long the latest answer of the other one took ..)"
    private static void tookOfTheOtherOne() {
        ThreeDots x = with(0, "go 1000;delay 5;");
        x.set(2, 0, 70);
        x.set(2, 1, 80);
        x.say(1, 5, 0, false);
        x.minutes(6);
        due("not yet", x.of(0, 1) * 100 + x.of(1, 1), 7080);
        x.minutes(1);
        due("of who wrote what is answered", x.of(0, 1) * 100 + x.of(1, 1), 7006);
    }

    // "is it HOUR 4 then, and a full one, CROSS of both is a tenth less (downwards of what is less)"
    private static void tenthLess() {
        int[][] tenths = {{0, 0}, {1, 1}, {9, 9}, {10, 9}, {11, 10}, {19, 18}, {20, 18}, {29, 27}, {55, 50}, {90, 81},
            {99, 90}};
        for (int[] t : tenths) {
            ThreeDots x = new ThreeDots();
            x.set(1, 0, t[0]);
            x.set(1, 1, 99 - t[0]);
            x.set(0, 0, 239);
            due("in thought", x.goes(1, 2), t[1]);
            x.minutes(1);
            due("a tenth less of " + t[0], x.of(0, 0), t[1]);
            due("of both", x.of(1, 0), 99 - t[0] - (99 - t[0]) / 10);
        }
    }

    // "is it HOUR 4 then, and a full one"
    private static void tenthOnceADay() {
        int[] full = {240, 1680, 3120, 4560};
        for (int m : full) {
            ThreeDots x = new ThreeDots();
            x.set(1, 0, 99);
            x.set(0, 0, m - 2);
            x.minutes(1);
            due("not a minute ahead", x.of(0, 0), 99);
            x.minutes(1);
            due("then", x.of(0, 0), 90);
            x.minutes(300);
            x.minutes(300);
            x.minutes(300);
            x.minutes(300);
            x.minutes(239);
            due("once a day", x.of(0, 0), 90);
            x.minutes(1);
            due("the next day", x.of(0, 0), 81);
        }
        ThreeDots x = new ThreeDots();
        x.set(1, 0, 99);
        x.set(0, 0, 240);
        due("told to be 4: none goes by", x.of(0, 0), 99);
        x.minutes(1);
        due("nor behind it", x.of(0, 0), 99);
        x.set(0, 0, 180);
        x.minutes(59);
        due("HOUR 3", x.of(0, 0), 99);
        x.set(0, 0, 299);
        x.minutes(1);
        due("HOUR 5", x.of(0, 0), 99);
    }

    // "(d) MINUTE is one more; is it HOUR 4 then": behind (b) and (c)
    private static void tenthBehindHurt() {
        // Read at 239: hurt 5 to 15 first, then a tenth less.
        ThreeDots x = with(0, "hurt 15;go 1000;delay 1;lasts cross;");
        x.set(0, 0, 238);
        x.set(1, 1, 5);
        x.say(0, 5, 0, false);
        x.minutes(2);
        due("20, then 18", x.of(1, 0), 18);
        x.minutes(1);
        due("answered by what it is then", x.message(1, 3), 18);
        // Answered at 239 it is by what it was.
        x = with(0, "hurt 15;go 1000;delay 1;lasts cross;");
        x.set(0, 0, 237);
        x.set(1, 1, 5);
        x.say(0, 5, 0, false);
        x.minutes(3);
        due("answered by what it was", x.message(1, 3), 20);
        due("then 18", x.of(1, 0), 18);
    }

    // "to TAKE BACK (a MESSAGE that is not READ nor BACK)"
    private static void takingBack() {
        ThreeDots x = with(0, "go 1000;delay 1;");
        x.say(0, 5, 0, false);
        x.say(1, 5, 0, false);
        x.takeBack(0);
        x.minutes(5);
        due("never read", x.message(0, 2), NONE);
        due("never due", x.message(0, 8), NONE);
        due("no answer to it", x.message(2, 6), 1);
        due("an answer can be taken back until it is read", x.minutes(0), NONE);
        x = with(0, "go 1000;delay 1;");
        x.say(0, 5, 0, false);
        x.minutes(3);
        due("an answer", x.message(1, 6), 0);
        due("taken back", x.takeBack(1), true);
        due("what it answered is not answered again", x.minutes(100), 0);
    }

    // "THE BOOK ..: MINUTE, what (0 said, 1 read, 2 answered, 3 taken back, 4 rung), who, which (the MESSAGE; 4: NONE)"
    private static void bookLines() {
        ThreeDots x = with(0, "go 1000;delay 2;");
        x.set(0, 0, 50);
        x.say(1, 5, 0, false);
        x.minutes(4);
        x.say(0, 5, 0, false);
        x.takeBack(2);
        x.ring();
        dueLine(x, 0, "50 0 1 0");
        dueLine(x, 1, "51 1 0 0");
        dueLine(x, 2, "53 2 0 1");
        dueLine(x, 3, "54 0 0 2");
        dueLine(x, 4, "54 3 0 2");
        dueLine(x, 5, "54 4 -1 -1");
        due("six", x.look(3), 6);
    }

    // "THE BOOK (150 lines; no more then)"
    private static void bookIsFull() {
        ThreeDots x = with(0, "go 1000;delay 1;");
        for (int i = 0; i < 148; i++) {
            x.ring();
        }
        x.say(0, 5, 0, false);
        due("149", x.look(3), 149);
        x.say(1, 6, 0, false);
        due("150", x.look(3), 150);
        dueLine(x, 149, "0 0 1 1");
        due("said all the same", x.say(0, 7, 0, false), 2);
        due("taken back all the same", x.takeBack(2) && x.message(2, 7) == 1, true);
        due("read and answered all the same", x.minutes(3), 2);
        x.ring();
        due("no more", x.look(3), 150);
        dueLine(x, 149, "0 0 1 1");
        dueLine(x, 148, "0 0 0 0");
        due("no line 150", x.book(150, 0), -2);
        due("undone", x.undo() && x.undo() && x.undo() && x.undo(), true);
        due("still 150", x.look(3), 150);
        due("undone: back, said", x.undo() && x.undo(), true);
        due("150", x.look(3), 150);
        due("no more kept", x.undo(), false);
    }
}
