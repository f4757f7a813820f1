import java.io.IOException;
import java.nio.file.Files;
import java.nio.file.Path;
import java.util.ArrayList;
import java.util.List;
import java.util.Map;
import java.util.TreeMap;
import java.util.regex.Matcher;
import java.util.regex.Pattern;

/**
 * The boundary cases of promises 1 to 30, sentence by sentence. Each says() quotes the document's words that the rows
 * behind it hold; at the end every word of the promises and of the terms must have been quoted by some test.
 */
public final class BoundaryTest {
    private static final int BAD = -1, STATE = -2, FULL = -3, NONE = -9, NOBODY = -5, NO = -1000000;
    private static final int MIN = Integer.MIN_VALUE, MAX = Integer.MAX_VALUE;
    /** Six of one CHORUS, as many as there may be. */
    private static final String SIX = "p1 1 1;p1 2 1;p1 3 1;p1 4 1;p1 5 1;p1 6 1;";

    private static final Quotes quotes = new Quotes();
    private static String sentence = "";
    private static int wrong = 0;
    private static int rows = 0;

    private interface Made {
        LastRower get();
    }

    private interface Call {
        long of(LastRower x);
    }

    private interface NumberCall {
        long of(LastRower x, int number);
    }

    // ---- what the tests are written in

    private static void says(int promise, String words) {
        sentence = "promise " + promise + " \"" + words + "\"";
        quotes.add(promise, words);
    }

    private static void due(String call, long got, long want) {
        rows++;
        if (got != want) {
            wrong++;
            System.out.println(sentence + ": " + call + " answered " + got + ", due is " + want);
        }
    }

    private static void alike(String call, LastRower x, LastRower twin) {
        rows++;
        String got = describe(x);
        String want = describe(twin);
        if (!got.equals(want)) {
            wrong++;
            System.out.println(sentence + ": " + call + " left\n  " + got + "\nand due is\n  " + want);
        }
    }

    /** Asked of one of two that are alike: both are so still. */
    private static void changesNothing(String call, Made made, Call asked, long want) {
        LastRower x = made.get();
        due(call, asked.of(x), want);
        alike(call, x, made.get());
    }

    private static void refuses(String call, Made made, long answer, NumberCall asked, int... numbers) {
        for (int number : numbers) {
            changesNothing(call + " of " + number, made, x -> asked.of(x, number), answer);
        }
    }

    private static LastRower typed(LastRower x, String text) {
        for (int i = 0; i < text.length(); i++) {
            x.type(text.charAt(i));
        }
        return x;
    }

    private static LastRower told(String text) {
        return anew(new LastRower(), text);
    }

    private static LastRower anew(LastRower x, String text) {
        typed(x, text);
        int items = x.ferry();
        if (items < 0) {
            due("ferry() of [" + text + "]", items, 0);
        }
        return x;
    }

    private static LastRower pinched(LastRower x, int p) {
        x.pinches(p);
        return x;
    }

    private static LastRower beaten(LastRower x, int beats) {
        for (int i = 0; i < beats; i++) {
            x.beat();
        }
        return x;
    }

    private static void reads(String text, int items) {
        LastRower x = typed(new LastRower(), text);
        due("ferry() of [" + text + "]", x.ferry(), items);
        due("letters behind [" + text + "]", x.count(4), 0);
    }

    private static void fault(String text, int place) {
        changesNothing("ferry() of [" + text + "]", () -> {
            LastRower x = midway();
            x.clear();
            return typed(x, text);
        }, LastRower::ferry, -10 - place);
    }

    /** A bit of all: an oar, a QUARREL, an IMAGE, SEEN, a TRACE, letters; image 1 is not kept. */
    private static LastRower midway() {
        LastRower x = told("p4 5 1;p2 7 1;p9 30 0;c0 1;c10 3;w40;");
        x.pinches(0);
        beaten(x, 2);
        x.keep(0);
        x.quarrels(1, 2);
        x.beat();
        x.seen(3, 1);
        x.seen(0, 6);
        x.rate(4, 1);
        return typed(x, "p1 1");
    }

    private static LastRower atPier() {
        LastRower x = midway();
        for (int i = 0; i < 6; i++) {
            beaten(pinched(x, 2), 1);
        }
        return x;
    }

    private static LastRower fullText() {
        LastRower x = midway();
        for (int i = 4; i < 200; i++) {
            x.type(32);
        }
        return x;
    }

    private static LastRower fullSeen() {
        LastRower x = midway();
        for (int i = 2; i < 5; i++) {
            x.seen(i, 0);
        }
        return x;
    }

    private static LastRower late() {
        return beaten(new LastRower(), 9999);
    }

    /** All that can be seen of it; the object is used up by that. */
    private static String describe(LastRower x) {
        StringBuilder s = new StringBuilder();
        for (int what = 0; what < 5; what++) {
            s.append(x.count(what)).append(' ');
        }
        s.append("trace ").append(x.trace()).append(" who ").append(x.who()).append(" now ");
        for (int p = 0; p < x.count(0); p++) {
            s.append(x.passenger(p, 0)).append('/').append(x.passenger(p, 1)).append('/');
            s.append(x.passenger(p, 2)).append('/').append(x.passenger(p, 5)).append(' ');
        }
        for (int y = 0; y <= 400; y += 5) {
            s.append(x.current(y));
        }
        s.append(moment(x));
        for (int i = 0; i < 11; i++) {
            s.append(" undo ").append(x.undo()).append(moment(x));
        }
        s.append(" back ").append(x.back(0)).append(moment(x)).append(" back ").append(x.back(1)).append(moment(x));
        return s.append(" text ").append(x.ferry()).append(' ').append(x.clear()).toString();
    }

    private static String moment(LastRower x) {
        StringBuilder s = new StringBuilder(" [");
        for (int what = 0; what < 7; what++) {
            s.append(x.now(what)).append(' ');
        }
        for (int p = 0; p < x.count(0); p++) {
            s.append(x.passenger(p, 3)).append('.').append(x.passenger(p, 4)).append(' ');
        }
        return s.append(']').toString();
    }

    // ---- 1: a new object

    private static void newObject() {
        says(1, "As told; nobody on it.");
        LastRower x = new LastRower();
        due("count(0)", x.count(0), 0);
        due("passenger(0, 0)", x.passenger(0, 0), BAD);
        says(1, "60 at first");
        due("count(1)", x.count(1), 60);
        says(1, "THE BEAT (0 at first");
        due("now(0)", x.now(0), 0);
        says(1, "WHERE: a YARD (0 at first).");
        due("now(1)", x.now(1), 0);
        says(1, "OARS: PASSENGERS (bits; nobody at first).");
        due("now(2)", x.now(2), 0);
        says(1, "THE TRACE, 0 at first");
        due("trace()", x.trace(), 0);
        says(1, "with nobody 0");
        due("now(3)", x.now(3), 0);
        due("now(4)", x.now(4), 0);
        due("now(5)", x.now(5), 0);
        due("now(6)", x.now(6), 0);
        due("count(2)", x.count(2), 0);
        due("count(3)", x.count(3), 0);
        due("count(4)", x.count(4), 0);
        due("a ferry of nothing told is no other", x.ferry(), 0);
        alike("ferry() of an empty text", x, new LastRower());
        says(5, "SILENT: for how many BEATS each was so (0 at first).");
        LastRower six = told(SIX);
        for (int p = 0; p < 6; p++) {
            due("passenger(" + p + ", 3)", six.passenger(p, 3), 0);
        }
        says(5, "WORDS: how often each spoke (0 at first).");
        for (int p = 0; p < 6; p++) {
            due("passenger(" + p + ", 4)", six.passenger(p, 4), 0);
        }
    }

    private static void everyCallOfNobody() {
        says(1, "nobody on it");
        Made nobody = LastRower::new;
        changesNothing("undo()", nobody, LastRower::undo, STATE);
        changesNothing("back(0)", nobody, x -> x.back(0), STATE);
        changesNothing("back(1)", nobody, x -> x.back(1), STATE);
        changesNothing("pinches(0)", nobody, x -> x.pinches(0), BAD);
        changesNothing("quarrels(0, 1)", nobody, x -> x.quarrels(0, 1), BAD);
        changesNothing("sings(1)", nobody, x -> x.sings(1), STATE);
        changesNothing("odds(0, 0, 0, 0)", nobody, x -> x.odds(0, 0, 0, 0), BAD);
        changesNothing("rate(0, 0)", nobody, x -> x.rate(0, 0), NO);
        changesNothing("seen(0, 1)", nobody, x -> x.seen(0, 1), BAD);
        changesNothing("ends()", nobody, LastRower::ends, NONE);
        changesNothing("last()", nobody, LastRower::last, NONE);
        changesNothing("drift()", nobody, LastRower::drift, NONE);
        changesNothing("ring()", nobody, LastRower::ring, 1);
        changesNothing("best()", nobody, LastRower::best, NONE);
        changesNothing("mute(200)", nobody, x -> x.mute(200), 0);
        changesNothing("who()", nobody, LastRower::who, 64);
        changesNothing("plan(3, 0, -1)", nobody, x -> x.plan(3, 0, -1), NONE);
        changesNothing("plan(3, 0, 0)", nobody, x -> x.plan(3, 0, 0), NONE);
        changesNothing("inBeats(200, 1)", nobody, x -> x.inBeats(200, 1), 0);
        LastRower x = new LastRower();
        due("beat()", x.beat(), 0);
        due("now(0)", x.now(0), 1);
        due("now(2)", x.now(2), 0);
    }

    // ---- 2, 3: THE TEXT

    private static void type() {
        says(2, "A letter (0 .. 255) comes to THE TEXT");
        LastRower x = new LastRower();
        due("type(0)", x.type(0), 1);
        due("type(255)", x.type(255), 2);
        due("type(59)", x.type(59), 3);
        says(2, "BAD");
        refuses("type", BoundaryTest::midway, BAD, LastRower::type, -1, 256, MIN, MAX, 256 + 59);
        says(2, "how many it has.");
        LastRower y = new LastRower();
        for (int i = 1; i <= 199; i++) {
            due("type(32)", y.type(32), i);
        }
        says(2, "They are a text (200 letters at most), told letter by letter");
        due("the 200th", y.type(59), 200);
        due("all of them are read", y.ferry(), -10 - 199);
        says(2, "FULL.");
        refuses("type", BoundaryTest::fullText, FULL, LastRower::type, 0, 32, 255);
        due("count(4)", fullText().count(4), 200);
        says(2, "the first of these: BAD (a number is not as told, or there is no such thing), STATE (as told), FULL");
        refuses("type", BoundaryTest::fullText, BAD, LastRower::type, -1, 256);
        LastRower again = fullText();
        again.clear();
        due("there is room again", again.type(32), 1);
    }

    private static void clear() {
        says(3, "THE TEXT is empty");
        LastRower x = midway();
        due("clear()", x.clear(), 4);
        due("count(4)", x.count(4), 0);
        due("clear() again", x.clear(), 0);
        due("it tells nothing then", x.ferry(), 0);
        due("nobody is there then", x.count(0), 0);
        says(3, "how many letters it had.");
        due("clear() of none", new LastRower().clear(), 0);
        due("clear() of one", typed(new LastRower(), "p").clear(), 1);
        due("clear() of all", fullText().clear(), 200);
        LastRower y = midway();
        y.clear();
        typed(y, "p1 1");
        alike("nothing else is changed by clear()", y, midway());
    }

    // ---- 4: ferry

    private static void passengersTold() {
        says(4, "(6 at most)");
        reads(SIX, 6);
        due("count(0)", told(SIX).count(0), 6);
        fault(SIX + "p1 1 1;", SIX.length());
        fault(SIX + "w10;  p", SIX.length() + 6);
        says(4, "p S K C (a PASSENGER)");
        LastRower x = told("p2 3 1;p4 5 0;");
        due("STRONG", x.passenger(1, 0), 4);
        due("KEEPS", x.passenger(1, 1), 5);
        due("CHORUS", x.passenger(1, 2), 0);
        fault("p1 1 1 1;", 7);
        fault("p1 1;", 4);
        says(4, "STRONG (1 .. 9)");
        reads("p1 1 1;", 1);
        reads("p9 1 1;", 1);
        fault("p0 1 1;", 1);
        fault("p10 1 1;", 1);
        says(4, "KEEPS (1 .. 30 BEATS)");
        reads("p1 30 1;", 1);
        fault("p1 0 1;", 3);
        fault("p1 31 1;", 3);
        says(4, "a CHORUS (0: none; 1 .. 3).");
        reads("p1 1 0;", 1);
        reads("p1 1 3;", 1);
        fault("p1 1 4;", 5);
        fault("p1 1 30;", 5);
        due("CHORUS 0 is none", told("p1 1 0;").sings(1), STATE);
    }

    private static void riverTold() {
        says(4, "The river is WIDE (10 .. 200 YARDS; 60 at first).");
        reads("w10;", 1);
        due("count(1)", told("w10;").count(1), 10);
        due("count(1)", told("w200;").count(1), 200);
        fault("w9;", 1);
        fault("w0;", 1);
        fault("w201;", 1);
        due("not told anew it is 60 again", anew(told("w10;"), "p1 1 1;").count(1), 60);
        due("and it stays so", anew(anew(told("w10;"), "p1 1 1;"), "p1 1 1;").count(1), 60);
        says(4, "w N (WIDE; once at most).");
        fault("w10;w10;", 4);
        fault("w10;p1 1 1;w11;", 11);
        due("once for each text", anew(told("w10;"), "w11;").count(1), 11);
        says(4, "CURRENTS (4 at most)");
        reads("c0 1;c1 1;c2 1;c3 1;", 4);
        fault("c0 1;c1 1;c2 1;c3 1;c4 1;", 20);
        fault("c0 1;c1 1;c2 1;c3 1;p1 1 1; c", 28);
        due("four for each text", anew(told("c0 1;c1 1;c2 1;c3 1;"), "c0 2;").count(2), 1);
        says(4, "from a YARD (0 .. 199)");
        reads("c0 1;c199 1;", 2);
        fault("c200 1;", 1);
        says(4, "on it is N (0 .. 8)");
        reads("c1 0;c2 8;", 2);
        fault("c1 9;", 3);
        says(4, "c Y N (a CURRENT; of one YARD not told yet)");
        fault("c1 1;c1 1;", 6);
        fault("c1 1;c2 2;c 1 3;", 12);
        fault("c0 0;c0 0;", 6);
        fault("c1 1;c1", 6);
        due("told by an earlier text alone", anew(told("c1 1;"), "c1 2;").current(1), 2);
    }

    private static void tokens() {
        says(4, "blanks (32) between TOKENS");
        reads("  p  1   1 1 ;  w  10  ;  ", 2);
        reads("p1 1 1;w10;", 2);
        reads("   ", 0);
        fault("p1 11;", 5);
        fault("p1\t1 1;", 2);
        fault("p1\n1 1;", 2);
        fault("p1" + (char) 160 + "1 1;", 2);
        fault("w1 0;", 1);
        says(4, "ITEMS, each ended by ;");
        fault(";", 0);
        fault("w10;;", 4);
        fault("w10 p1 1 1;", 4);
        fault("w10", 3);
        says(4, "TOKENS are the letters p, c, w, NUMBERS and ;");
        fault("P1 1 1;", 0);
        fault("C1 1;", 0);
        fault("W10;", 0);
        fault("w10:", 3);
        fault("w+10;", 1);
        fault("w-10;", 1);
        says(4, "FAULT: the place of the first letter of the first TOKEN that can't stand there");
        fault("w p", 2);
        fault("w w10;", 2);
        fault("p1 1 1p1 1 1;", 6);
        fault("p1 1 1w10;", 6);
        fault("10;", 0);
        fault("w9;p0 0 9;", 1);
        fault("w10 10;", 4);
        fault("c1 c", 3);
        says(4, "(a seventh p, a fifth c, w again, a YARD told yet, a NUMBER beyond what it may be, too)");
        fault(SIX + "p", SIX.length());
        fault("c0 1;c1 1;c2 1;c3 1;c", 20);
        fault("w10;w", 4);
        fault("c1 1;c1 9;", 6);
        fault("p1 1 1;p10", 8);
    }

    private static void wrongTokens() {
        says(4, "of any other letter, a NUMBER above 200 or with a 0 ahead of others, that TOKEN's");
        for (int letter = 0; letter < 256; letter++) {
            if (letter != 32 && letter != 'c' && letter != 'p' && letter != 'w') {
                LastRower x = new LastRower();
                x.type(32);
                x.type(letter);
                due("ferry() of the letter " + letter, x.ferry(), -11);
            }
        }
        fault("w10;q", 4);
        fault("w10" + (char) 255, 3);
        fault("p1 1 201;", 5);
        fault("w 1000;", 2);
        // 2^31, 2^32 and 2^64 and ten more: what would be 10 if it were counted in an int or in a long.
        fault("w2147483658;", 1);
        fault("w4294967306;", 1);
        fault("w18446744073709551626;", 1);
        fault("w" + "9".repeat(199), 1);
        fault("w" + "0".repeat(197) + "10", 1);
        fault("w010;", 1);
        fault("p1 1 00;", 5);
        fault("p01 1 1;", 1);
        fault("c00 1;", 1);
        fault("w0200;", 1);
        reads("c0 0;p1 1 0;", 2);
    }

    private static void textEnds() {
        says(4, "the text's length, if it ends too early.");
        fault("p", 1);
        fault("p1", 2);
        fault("p1 1", 4);
        fault("p1 1 1", 6);
        fault("p1 1 1   ", 9);
        fault("c", 1);
        fault("c1", 2);
        fault("c1 1", 4);
        fault("w", 1);
        fault("w   ", 4);
        fault("w10", 3);
        fault("w10; p", 6);
        fault("p" + " ".repeat(199), 200);
    }

    private static void ferry() {
        says(4, "THE TEXT tells all anew, and is empty then");
        LastRower x = midway();
        x.clear();
        anew(x, "p3 4 2;");
        due("count(4)", x.count(4), 0);
        alike("ferry() behind a trace", ratedAlike(x), ratedAlike(told("p3 4 2;")));
        says(4, "how many ITEMS.");
        reads("", 0);
        reads(SIX + "c0 1;c1 1;c2 1;c3 1;w10;", 11);
        says(4, "-10 less FAULT: nothing changes.");
        fault("x", 0);
        fault(" ".repeat(199) + "x", 199);
        fault("p3 4 2;w30;c0 5;q", 16);
        says(4, "(Read anew: as told, BEAT 0, YARD 0, nothing SEEN, IMAGES are gone.)");
        LastRower y = atPier();
        y.keep(1);
        y.clear();
        anew(y, "p3 4 2;w10;");
        int[] counts = {1, 10, 0, 0, 0};
        for (int what = 0; what < counts.length; what++) {
            due("count(" + what + ")", y.count(what), counts[what]);
        }
        for (int what = 0; what < 7; what++) {
            due("now(" + what + ")", y.now(what), 0);
        }
        due("SILENT", y.passenger(0, 3), 0);
        due("WORDS", y.passenger(0, 4), 0);
        due("undo()", y.undo(), STATE);
        due("back(0)", y.back(0), STATE);
        due("back(1)", y.back(1), STATE);
        due("THE TRACE stays", y.trace(), 10101);
        LastRower often = new LastRower();
        for (int i = 0; i < 3; i++) {
            anew(often, "w10;" + SIX + "c0 1;c1 1;c2 1;c3 1;");
        }
        anew(often, "");
        alike("nothing of what was told three times is left", often, new LastRower());
        LastRower fewer = anew(anew(told(SIX), SIX), "p1 1 0;p1 1 2;");
        due("nobody sings who was told by an earlier text", fewer.sings(1), STATE);
        due("sings(2)", fewer.sings(2), 1);
        due("OARS", fewer.now(2), 2);
        LastRower none = midway();
        none.clear();
        due("ferry() of an empty text", none.ferry(), 0);
        due("nobody is there", none.count(0), 0);
        due("60 again", none.count(1), 60);
        due("no CURRENT", none.current(0), 0);
    }

    /** THE TRACE is not told anew, so the twin gets as much of it. */
    private static LastRower ratedAlike(LastRower x) {
        if (x.trace() == 0) {
            x.rate(4, 0);
        }
        return x;
    }

    // ---- 5, 6, 7: the ferry as it is

    private static void passenger() {
        says(5, "Of a PASSENGER: 0 STRONG, 1 KEEPS, 2 CHORUS, 3 SILENT, 4 WORDS, 5 whether an oar is his.");
        LastRower x = told("p9 30 3;p1 1 0;w200;");
        x.pinches(0);
        int[] want = {9, 30, 3, 0, 1, 1};
        for (int what = 0; what < 6; what++) {
            due("passenger(0, " + what + ")", x.passenger(0, what), want[what]);
        }
        due("no oar is his", x.passenger(1, 5), 0);
        x.beat();
        due("the oar is his alone", x.passenger(0, 5), 0);
        due("an oar is his", x.passenger(1, 5), 1);
        due("the sixth", told(SIX).passenger(5, 1), 6);
        LastRower silent = beaten(told("p1 30 0;"), 29);
        due("SILENT for 29", silent.passenger(0, 3), 29);
        silent.beat();
        due("SILENT for 0", silent.passenger(0, 3), 0);
        due("a WORD", silent.passenger(0, 4), 1);
        says(5, "BAD.");
        refuses("passenger(p, 0)", BoundaryTest::midway, BAD, (y, p) -> y.passenger(p, 0), -1, 3, 5, 6, MIN, MAX);
        refuses("passenger(0, what)", BoundaryTest::midway, BAD, (y, w) -> y.passenger(0, w), -1, 6, MIN, MAX);
        due("passenger(6, 0) of six", told(SIX).passenger(6, 0), BAD);
    }

    private static void current() {
        says(6, "The CURRENT at a YARD (0 .. 400).");
        LastRower x = told("c199 5;c0 3;");
        due("current(0)", x.current(0), 3);
        due("current(198)", x.current(198), 3);
        due("current(199)", x.current(199), 5);
        due("current(200)", x.current(200), 5);
        due("current(400)", x.current(400), 5);
        says(6, "BAD.");
        refuses("current", BoundaryTest::midway, BAD, LastRower::current, -1, 401, MIN, MAX);
        says(6, "till the next one's YARD");
        LastRower y = told("c30 8;c10 1;c31 0;c20 4;");
        int[][] want = {{10, 1}, {19, 1}, {20, 4}, {29, 4}, {30, 8}, {31, 0}, {400, 0}};
        for (int[] w : want) {
            due("current(" + w[0] + ")", y.current(w[0]), w[1]);
        }
        says(6, "ahead of the first one's none (0).");
        due("current(0)", y.current(0), 0);
        due("current(9)", y.current(9), 0);
        due("none told", new LastRower().current(400), 0);
    }

    private static void now() {
        says(7, "0 THE BEAT, 1 WHERE, 2 OARS (bits)");
        LastRower x = told(SIX + "w200;");
        x.sings(1);
        x.beat();
        due("THE BEAT", x.now(0), 1);
        due("WHERE", x.now(1), 6);
        due("OARS", x.now(2), 1);
        x.pinches(5);
        due("OARS of the sixth", x.now(2), 32);
        x.sings(1);
        due("OARS of all", x.now(2), 63);
        says(7, "PULL of the OARS: with one oar how STRONG he is");
        due("no CHORUS", pinched(told("p9 30 0;p1 30 0;"), 0).now(3), 9);
        due("a CHORUS", pinched(told("p9 30 3;p1 30 3;"), 1).now(3), 1);
        says(7, "with more, if all are of one CHORUS (not 0), all together; else it goes ROUND");
        LastRower two = told("p9 30 3;p8 30 3;p7 30 2;p6 30 0;p5 30 0;");
        due("one CHORUS", two.quarrels(0, 1), 17);
        due("two CHORUSES", two.quarrels(1, 2), NONE);
        due("one of none", two.quarrels(3, 1), NONE);
        due("both of none", two.quarrels(3, 4), NONE);
        due("54 at most", told("p9 1 1;p9 1 1;p9 1 1;p9 1 1;p9 1 1;p9 1 1;").sings(1), 54);
        due("five of six and one of another", beaten(told("p9 1 1;p9 1 1;p9 1 1;p9 1 1;p9 1 1;p9 1 2;"), 1).now(3), NONE);
        says(7, "3 PULL (NONE: ROUND)");
        due("ROUND", two.now(3), NONE);
        says(7, "4 whether OVER (1, 0)");
        due("not OVER", midway().now(4), 0);
        due("OVER", atPier().now(4), 1);
        says(7, "OVER: WHERE is WIDE at least.");
        LastRower pier = beaten(pinched(told("p1 30 0;w10;"), 0), 9);
        due("a YARD less", pier.now(4), 0);
        pier.beat();
        due("just as far", pier.now(4), 1);
        due("beyond it", beaten(pinched(told("p9 30 0;w10;"), 0), 2).now(4), 1);
        says(7, "5 WORDS of all");
        due("of none", told(SIX).now(5), 0);
        due("of six", x.now(5), 6 + 1 + 1 + 6);
        says(7, "6 how many may be UNDONE.");
        due("none", new LastRower().now(6), 0);
        due("ten", beaten(new LastRower(), 10).now(6), 10);
        due("ten at most", beaten(new LastRower(), 11).now(6), 10);
        says(7, "BAD.");
        refuses("now", BoundaryTest::midway, BAD, LastRower::now, -1, 7, MIN, MAX);
    }

    // ---- 8 to 12: what is done

    private static void beat() {
        says(8, "A BEAT: WHERE it is then.");
        due("beat()", pinched(told("p9 30 0;"), 0).beat(), 9);
        says(8, "WHERE is more by PULL less the CURRENT there (it may be less; 0 at least)");
        LastRower x = pinched(told("p5 30 0;p1 30 0;c0 1;c4 2;c7 8;"), 0);
        due("beat() by the CURRENT at 0", x.beat(), 4);
        due("beat() by the CURRENT at 4", x.beat(), 7);
        due("beat() by the CURRENT at 7: less", x.beat(), 4);
        x.pinches(1);
        due("beat() less by one", x.beat(), 3);
        due("beat() by as much as the CURRENT", x.beat(), 3);
        LastRower back = pinched(told("p2 30 0;p1 30 0;c2 8;"), 0);
        due("beat()", back.beat(), 2);
        due("beat(), 0 at least", back.beat(), 0);
        due("a CURRENT at 0", beaten(new LastRower(), 1).now(1), 0);
        due("a CURRENT with nobody's oars", told("c0 8;").beat(), 0);
        says(8, "but by nothing if it goes ROUND");
        LastRower round = pinched(told("p5 30 0;p1 30 0;c5 8;"), 0);
        round.beat();
        round.quarrels(0, 1);
        due("beat() ROUND in a CURRENT", round.beat(), 5);
        says(8, "then THE BEAT is the next, each is SILENT a BEAT more");
        due("THE BEAT", round.now(0), 2);
        due("SILENT", round.passenger(0, 3), 1);
        due("SILENT", round.passenger(1, 3), 1);
        says(8, "all who are SILENT for KEEPS BEATS now SPEAK (if any are).");
        LastRower keeps = told("p1 1 0;p1 2 0;p1 2 0;p1 3 0;");
        int[] oars = {1, 7, 9, 7, 1, 15};
        for (int i = 0; i < oars.length; i++) {
            keeps.beat();
            due("OARS in BEAT " + (i + 1), keeps.now(2), oars[i]);
        }
        LastRower held = beaten(pinched(told("p1 30 0;p1 30 0;"), 1), 29);
        due("nobody SPEAKS, the oar stays", held.now(2), 2);
        due("no WORD more", held.now(5), 1);
        held.beat();
        due("both SPEAK", held.now(2), 3);
        says(8, "A BEAT, unless it is OVER");
        LastRower over = beaten(told("p9 2 0;p1 4 0;w10;"), 4);
        due("who can't keep still in the last BEAT SPEAKS", over.now(2), 3);
        due("OVER", over.now(4), 1);
        says(8, "STATE: it is OVER, it is BEAT 9999.");
        changesNothing("beat() when OVER", BoundaryTest::atPier, LastRower::beat, STATE);
        changesNothing("beat() at 9999", BoundaryTest::late, LastRower::beat, STATE);
        says(8, "9999 at most");
        LastRower late = beaten(new LastRower(), 9998);
        due("beat() at 9998", late.beat(), 0);
        due("now(0)", late.now(0), 9999);
    }

    private static void pinches() {
        says(9, "PINCHED: one SPEAKS.");
        LastRower x = beaten(told("p1 9 0;p1 9 0;"), 3);
        says(9, "PINCHED: his WORDS.");
        due("pinches(0)", x.pinches(0), 1);
        due("pinches(0) again", x.pinches(0), 2);
        due("pinches(1)", x.pinches(1), 1);
        says(9, "SPEAK: some PASSENGERS do, at once: the OARS are theirs alone, each of them is SILENT for 0 BEATS, has a WORD more.");
        due("OARS", x.now(2), 2);
        due("SILENT", x.passenger(1, 3), 0);
        due("WORDS of the other", x.passenger(0, 4), 2);
        due("THE BEAT is the same", x.now(0), 3);
        due("the sixth", told(SIX).pinches(5), 1);
        says(9, "BAD");
        refuses("pinches", BoundaryTest::midway, BAD, LastRower::pinches, -1, 3, 6, 32, MIN, MAX);
        says(9, "STATE: it is OVER.");
        refuses("pinches when OVER", BoundaryTest::atPier, STATE, LastRower::pinches, 0, 2);
        says(9, "BAD; STATE");
        refuses("pinches when OVER", BoundaryTest::atPier, BAD, LastRower::pinches, -1, 3);
        due("pinches(0) at 9999", beaten(told("p1 30 0;c0 1;w10;"), 9999).pinches(0), 333 + 1);
    }

    private static void quarrels() {
        says(10, "QUARREL: two SPEAK.");
        LastRower x = beaten(told("p4 9 1;p3 9 1;p2 9 0;"), 3);
        says(10, "QUARREL: the PULL then (NONE: ROUND).");
        due("quarrels(0, 1)", x.quarrels(0, 1), 7);
        due("quarrels(1, 0)", x.quarrels(1, 0), 7);
        due("quarrels(0, 2)", x.quarrels(0, 2), NONE);
        due("OARS", x.now(2), 5);
        due("SILENT of both", x.passenger(0, 3) + x.passenger(2, 3), 0);
        due("SILENT of the third", x.passenger(1, 3), 0);
        due("WORDS", x.passenger(0, 4) * 100 + x.passenger(1, 4) * 10 + x.passenger(2, 4), 321);
        due("the fifth and the sixth", told(SIX).quarrels(5, 4), 2);
        says(10, "BAD (alike, too)");
        refuses("quarrels(a, a)", BoundaryTest::midway, BAD, (y, a) -> y.quarrels(a, a), 0, 1, 2, 3, -1);
        refuses("quarrels(a, 0)", BoundaryTest::midway, BAD, (y, a) -> y.quarrels(a, 0), -1, 3, 6, 33, MIN, MAX);
        refuses("quarrels(0, b)", BoundaryTest::midway, BAD, (y, b) -> y.quarrels(0, b), -1, 3, 6, 33, MIN, MAX);
        says(10, "STATE: it is OVER.");
        changesNothing("quarrels(0, 1) when OVER", BoundaryTest::atPier, y -> y.quarrels(0, 1), STATE);
        changesNothing("quarrels(0, 0) when OVER", BoundaryTest::atPier, y -> y.quarrels(0, 0), BAD);
        changesNothing("quarrels(0, 3) when OVER", BoundaryTest::atPier, y -> y.quarrels(0, 3), BAD);
        changesNothing("quarrels(3, 0) when OVER", BoundaryTest::atPier, y -> y.quarrels(3, 0), BAD);
    }

    private static void sings() {
        says(11, "SUNG: all of a CHORUS (1 .. 3) SPEAK.");
        LastRower x = beaten(told("p4 9 1;p3 9 3;p2 9 1;p1 9 0;"), 3);
        says(11, "SUNG: the PULL then.");
        due("sings(1)", x.sings(1), 6);
        due("OARS", x.now(2), 5);
        due("WORDS", x.now(5), 2);
        due("sings(3), of one", x.sings(3), 3);
        due("OARS", x.now(2), 2);
        due("SILENT of who did not", x.passenger(3, 3), 3);
        due("all six", told(SIX).sings(1), 6);
        says(11, "BAD");
        refuses("sings", BoundaryTest::midway, BAD, LastRower::sings, 0, -1, 4, MIN, MAX);
        says(11, "STATE: it is OVER, nobody is of that CHORUS.");
        refuses("sings with nobody", BoundaryTest::midway, STATE, LastRower::sings, 2, 3);
        refuses("sings when OVER", BoundaryTest::atPier, STATE, LastRower::sings, 1, 2, 3);
        says(11, "BAD; STATE");
        refuses("sings when OVER", BoundaryTest::atPier, BAD, LastRower::sings, 0, 4);
    }

    private static void undo() {
        says(12, "UNDONE: how many more may be.");
        LastRower x = told("p1 9 1;p1 9 1;");
        LastRower twin = told("p1 9 1;p1 9 1;");
        x.beat();
        x.pinches(0);
        x.quarrels(0, 1);
        x.sings(1);
        for (int left = 3; left >= 0; left--) {
            due("undo()", x.undo(), left);
        }
        alike("all that was done is UNDONE", x, twin);
        says(12, "STATE: none.");
        changesNothing("undo()", () -> told("p1 9 1;"), LastRower::undo, STATE);
        changesNothing("undo() behind back()", () -> {
            LastRower y = midway();
            y.back(0);
            return y;
        }, LastRower::undo, STATE);
        says(12, "UNDONE: the latest beat(), pinches(), quarrels(), sings() that was not refused");
        LastRower refused = midway();
        refused.pinches(3);
        refused.quarrels(0, 0);
        refused.sings(2);
        alike("what was refused can't be UNDONE", refused, midway());
        LastRower over = atPier();
        over.beat();
        over.pinches(0);
        over.undo();
        due("undo() when OVER: THE BEAT", over.now(0), 8);
        due("undo() when OVER: not OVER", over.now(4), 0);
        says(12, "(10 are known, older ones are lost).");
        for (int done = 9; done <= 31; done++) {
            tenAreKnown(done);
        }
        undoneAndDoneAgain();
    }

    private static void tenAreKnown(int done) {
        LastRower x = beaten(new LastRower(), done);
        int known = Math.min(done, 10);
        due("now(6) behind " + done, x.now(6), known);
        for (int i = 1; i <= known; i++) {
            due("undo() " + i + " behind " + done, x.undo(), known - i);
            due("THE BEAT then", x.now(0), done - i);
        }
        due("undo() of what is lost", x.undo(), STATE);
        due("THE BEAT stays", x.now(0), done - known);
    }

    /** The room for ten is used around and around: what was done anew must not wake what was UNDONE. */
    private static void undoneAndDoneAgain() {
        LastRower x = beaten(new LastRower(), 14);
        for (int i = 0; i < 7; i++) {
            x.undo();
        }
        due("THE BEAT", x.now(0), 7);
        due("now(6)", x.now(6), 3);
        beaten(x, 5);
        due("now(6)", x.now(6), 8);
        for (int left = 7; left >= 0; left--) {
            due("undo()", x.undo(), left);
            due("THE BEAT", x.now(0), 4 + left);
        }
        due("undo()", x.undo(), STATE);
    }

    // ---- 13 to 18: what comes

    /** Lone rowers stand still; both together row from BEAT 99 to 108, 198 to 207 and so on: 31 YARDS by the 400th. */
    private static LastRower farPier(int wide) {
        return told("p1 9 1;p1 11 1;c0 1;w" + wide + ";");
    }

    private static void nothingIsChanged() {
        says(13, "(As things are NOW; nothing is changed; nobody is PINCHED and so on but as told; THE BEAT 9999 does not matter.)");
        LastRower x = midway();
        LastRower pier = atPier();
        for (LastRower y : new LastRower[] {x, pier}) {
            y.inBeats(200, 0);
            y.ends();
            y.last();
            y.first(0);
            y.first(1);
            y.ring();
            y.drift();
            y.plan(3, 0, -1);
            y.plan(2, 9, 1);
            y.best();
            y.mute(200);
            y.who();
            y.odds(1, 5, 6, 0);
            y.current(400);
            y.passenger(2, 3);
            y.now(3);
            y.count(4);
            y.trace();
        }
        alike("what comes", x, midway());
        alike("what comes, when OVER", pier, atPier());
        LastRower late = beaten(told("p1 10 0;p1 10 0;w10;"), 9999);
        due("inBeats(1, 2) at 9999", late.inBeats(1, 2), 2);
        due("first(0) at 9999", late.first(0), 1);
        due("plan(1, 0, -1) at 9999", late.plan(1, 0, -1), 10);
        due("ring() at 9999", late.ring(), 10);
    }

    private static void inBeats() {
        says(13, "IN n (0 .. 200) BEATS (it stays, once it is OVER)");
        LastRower x = told("p1 1 0;w200;");
        due("inBeats(0, 0)", x.inBeats(0, 0), 0);
        due("inBeats(1, 1)", x.inBeats(1, 1), 1);
        due("inBeats(199, 0)", x.inBeats(199, 0), 198);
        due("inBeats(200, 0)", x.inBeats(200, 0), 199);
        due("inBeats(200, 2)", x.inBeats(200, 2), 200);
        LastRower over = told("p9 1 0;p1 4 0;w19;");
        due("WHERE stays", over.inBeats(4, 0), 27);
        due("WHERE stays", over.inBeats(5, 0), 27);
        due("WHERE stays", over.inBeats(200, 0), 27);
        due("OARS stay", over.inBeats(200, 1), 3);
        due("WORDS stay", over.inBeats(200, 2), 5);
        due("OVER now: WHERE", atPier().inBeats(200, 0), atPier().now(1));
        due("OVER now: OARS", atPier().inBeats(200, 1), atPier().now(2));
        due("OVER now: WORDS", atPier().inBeats(200, 2), 0);
        says(13, "WHERE; the OARS; how many WORDS were spoken by then, from NOW on.");
        says(13, "IN n BEATS: WHERE (what = 0), the OARS (1, bits), WORDS (2).");
        x.pinches(0);
        due("WORDS by NOW", x.inBeats(0, 2), 0);
        due("WORDS of a BEAT", x.inBeats(1, 2), 1);
        due("WHERE with an oar", x.inBeats(200, 0), 200);
        due("OARS of all", told(SIX + "w200;").inBeats(60, 1), 63);
        says(13, "BAD.");
        refuses("inBeats(n, 0)", BoundaryTest::midway, BAD, (y, n) -> y.inBeats(n, 0), -1, 201, MIN, MAX);
        refuses("inBeats(0, what)", BoundaryTest::midway, BAD, (y, w) -> y.inBeats(0, w), -1, 3, MIN, MAX);
        refuses("inBeats(n, 0) when OVER", BoundaryTest::atPier, BAD, (y, n) -> y.inBeats(n, 0), -1, 201);
    }

    private static void ends() {
        says(14, "ENDS: in how many BEATS (0 .. 400) it is OVER; NONE.");
        due("OVER now", atPier().ends(), 0);
        LastRower near = beaten(pinched(told("p1 30 0;w10;"), 0), 9);
        due("a YARD ahead of it", near.ends(), 1);
        due("in 400", farPier(31).ends(), 400);
        LastRower far = farPier(32);
        due("in 401", far.ends(), NONE);
        far.beat();
        due("in 400, a BEAT later", far.ends(), 400);
        says(14, "ENDS; NONE.");
        due("never", told("p1 1 0;c0 1;").ends(), NONE);
        due("it really is so", beaten(farPier(31), 399).now(4), 0);
        due("it really is so", beaten(farPier(31), 400).now(4), 1);
    }

    private static void last() {
        says(15, "LAST: whose the OARS are then (bits); NONE.");
        due("OVER now", atPier().last(), atPier().now(2));
        due("who SPEAKS in the last BEAT", told("p9 2 0;p1 4 0;w10;").last(), 3);
        due("in 400", farPier(31).last(), 3);
        LastRower far = farPier(32);
        due("in 401", far.last(), NONE);
        far.beat();
        due("in 400, a BEAT later", far.last(), 3);
        says(15, "LAST, as bits; NONE.");
        due("the sixth", pinched(told("p1 30 0;p1 30 0;p1 30 0;p1 30 0;p1 30 0;p9 30 0;w10;"), 5).last(), 32);
        due("never", told("p1 1 0;c0 1;").last(), NONE);
    }

    private static void first() {
        says(16, "FIRST to SPEAK of himself, if nobody does else: in how many BEATS (1 .. 30); who (bits)");
        says(16, "FIRST: in how many BEATS (what = 0), who (1, bits)");
        due("in 30", told("p1 30 0;").first(0), 30);
        due("in 1", told("p1 1 0;").first(0), 1);
        due("in 1", beaten(told("p1 30 0;"), 29).first(0), 1);
        due("in 30 again", beaten(told("p1 30 0;"), 30).first(0), 30);
        LastRower x = told("p1 9 0;p1 9 0;p1 10 0;p1 9 0;");
        due("several", x.first(1), 11);
        x.beat();
        x.pinches(1);
        due("without who SPOKE", x.first(1), 9);
        due("the sixth", told("p1 9 0;p1 9 0;p1 9 0;p1 9 0;p1 9 0;p1 8 0;").first(1), 32);
        due("all six", told("p1 9 0;p1 9 0;p1 9 0;p1 9 0;p1 9 0;p1 9 0;").first(1), 63);
        says(16, "NONE (nobody is there).");
        due("first(0) of nobody", new LastRower().first(0), NONE);
        due("first(1) of nobody", new LastRower().first(1), NONE);
        due("first(0) behind a text of nobody", anew(told(SIX), "w10;").first(0), NONE);
        says(16, "NONE. BAD.");
        refuses("first", BoundaryTest::midway, BAD, LastRower::first, -1, 2, MIN, MAX);
        refuses("first of nobody", LastRower::new, BAD, LastRower::first, -1, 2);
    }

    private static void ring() {
        says(17, "RING: in how many BEATS (1 .. 400), were the river without end, OARS and how long each is SILENT are first as they are NOW; NONE.");
        due("in 1", pinched(told("p1 1 0;"), 0).ring(), 1);
        LastRower x = told("p1 16 0;p1 25 0;");
        x.quarrels(0, 1);
        due("in 400", x.ring(), 400);
        LastRower y = told("p1 14 0;p1 29 0;");
        y.quarrels(0, 1);
        due("in 406", y.ring(), NONE);
        LastRower second = beaten(told("p1 2 0;p1 5 0;"), 2);
        due("OARS and the first one's SILENT are alike in 2, the second one's in 10", second.ring(), 10);
        due("the OARS differ, SILENT is alike", pinched(told("p1 5 0;p1 5 0;"), 0).ring(), NONE);
        due("nobody has them again", told("p1 5 0;").ring(), NONE);
        LastRower z = pinched(told("p9 20 0;w10;"), 0);
        due("beyond the pier", z.ring(), 20);
        beaten(z, 2);
        due("OVER now", z.now(4), 1);
        due("were the river without end", z.ring(), 20);
        says(17, "RING; NONE.");
        due("with nobody there", new LastRower().ring(), 1);
    }

    private static void drift() {
        says(18, "DRIFT: in how many BEATS (1 .. 400) it is first less far than NOW, if that comes ahead of being OVER; NONE.");
        LastRower x = pinched(told("p9 30 0;p1 30 0;c9 3;w20;"), 0);
        x.beat();
        due("OVER ahead of it", x.drift(), NONE);
        x.pinches(1);
        due("in 1", x.drift(), 1);
        LastRower still = beaten(pinched(told("p3 30 0;p1 29 0;c3 3;w20;"), 0), 1);
        due("as far as NOW", still.inBeats(28, 0), 3);
        due("as far as NOW is not less", still.drift(), 29);
        due("at 0", told("p1 1 0;c0 8;").drift(), NONE);
        driftsIn(400, "p6 17 1;p4 24 0;p7 30 0;p2 28 0;c4 5;w96;", 2, 2);
        driftsIn(401, "p9 23 0;p9 17 1;p1 9 0;c29 7;c4 2;w57;", 1, 1);
        says(18, "DRIFT; NONE.");
        due("OVER now", atPier().drift(), NONE);
        due("with nobody there", new LastRower().drift(), NONE);
    }

    /** beat() itself tells when it is less far. */
    private static void driftsIn(int beats, String text, int pinchedOne, int rowed) {
        LastRower x = beaten(pinched(told(text), pinchedOne), rowed);
        int from = x.now(1);
        due("drift() in " + beats, x.drift(), beats > 400 ? NONE : beats);
        for (int i = 1; i < beats; i++) {
            due("not less far in BEAT " + i, x.beat() >= from ? 1 : 0, 1);
        }
        due("less far in BEAT " + beats, x.beat() < from ? 1 : 0, 1);
    }

    // ---- 19, 20: whom to pinch

    private static void plan() {
        says(19, "PLAN of n (1 .. 3) BEATS, v (0 .. 60)");
        refuses("plan(n, 0, -1)", BoundaryTest::midway, BAD, (y, n) -> y.plan(n, 0, -1), 0, -1, 4, MIN, MAX);
        refuses("plan(1, v, -1)", BoundaryTest::midway, BAD, (y, v) -> y.plan(1, v, -1), -1, 61, MIN, MAX);
        LastRower strong = told("p9 1 1;p9 1 1;p9 1 1;p9 1 1;p9 1 1;p9 1 1;w54;");
        due("plan(1, 54, -1)", strong.plan(1, 54, -1), 2);
        due("plan(3, 54, 0)", strong.plan(3, 54, 0), NOBODY);
        due("plan(1, 55, -1)", strong.plan(1, 55, -1), NONE);
        due("plan(3, 60, -1)", strong.plan(3, 60, -1), NONE);
        says(19, "ahead of each of them (as long as it is not OVER) one PASSENGER is PINCHED, or nobody");
        // 0 rows 9 but is silenced by 1, who can't keep still; so he is to be PINCHED ahead of every BEAT.
        LastRower x = told("p9 30 0;p1 1 0;w27;");
        due("plan(1, 0, -1)", x.plan(1, 0, -1), 1 + 18);
        due("plan(2, 0, -1)", x.plan(2, 0, -1), 2 + 9);
        due("plan(3, 0, -1)", x.plan(3, 0, -1), 3);
        for (int k = 0; k < 3; k++) {
            due("plan(3, 0, " + k + ")", x.plan(3, 0, k), 0);
        }
        // A YARD ahead of the pier whoever is PINCHED brings it over, and 2 can't keep still then; only one who is not
        // there could hold it till 1 can't.
        LastRower near = beaten(pinched(told("p1 30 0;p9 11 0;p1 10 0;w10;"), 0), 9);
        due("plan(1, 1, -1)", near.plan(1, 1, -1), 1);
        due("plan(1, 9, -1)", near.plan(1, 9, -1), NONE);
        says(19, "of all such rows that by which it is OVER soonest");
        due("plan(1, 0, 0)", told("p1 30 0;p2 30 0;p9 30 0;p8 30 0;w10;").plan(1, 0, 0), 2);
        due("the sixth", told("p1 30 0;p1 30 0;p1 30 0;p1 30 0;p1 30 0;p2 30 0;w10;").plan(3, 0, 2), NOBODY);
        due("the sixth", told("p1 30 0;p1 30 0;p1 30 0;p1 30 0;p1 30 0;p2 30 0;w10;").plan(3, 0, 0), 5);
        planEndsStrong();
        planIsTheFirst();
        planBeats();
    }

    private static void planEndsStrong() {
        says(19, "with a PULL of the OARS then of v at least (ROUND: 0)");
        LastRower x = told("p3 30 0;p9 30 0;w10;");
        due("plan(1, 3, 0)", x.plan(1, 3, 0), 1);
        due("plan(2, 9, -1)", x.plan(2, 9, -1), 2);
        due("plan(2, 9, 0)", x.plan(2, 9, 0), 0);
        due("plan(2, 9, 1)", x.plan(2, 9, 1), 1);
        due("plan(2, 10, -1)", x.plan(2, 10, -1), NONE);
        LastRower round = told("p9 2 0;p8 2 0;w10;");
        due("plan(1, 0, -1)", round.plan(1, 0, -1), 2);
        due("plan(1, 1, -1)", round.plan(1, 1, -1), NONE);
        // In two BEATS 0 brings it over, but 1 can't keep still then; a BEAT later he has just spoken.
        LastRower slow = told("p9 30 0;p3 2 0;w18;");
        due("plan(3, 3, -1)", slow.plan(3, 3, -1), 2);
        due("plan(2, 4, -1)", slow.plan(2, 4, -1), NONE);
        due("plan(3, 4, -1)", slow.plan(3, 4, -1), 3);
        due("plan(3, 4, 0)", slow.plan(3, 4, 0), NOBODY);
        due("plan(3, 4, 1)", slow.plan(3, 4, 1), 0);
        due("plan(3, 4, 2)", slow.plan(3, 4, 2), 0);
        says(19, "PLAN: in how many BEATS (k = -1), whom (0 .. 2; -5)");
        due("plan(3, 9, -1) when OVER", pierOf9().plan(3, 9, -1), 0);
        due("plan(3, 10, -1) when OVER", pierOf9().plan(3, 10, -1), NONE);
        due("plan(3, 10, 0) when OVER", pierOf9().plan(3, 10, 0), NONE);
    }

    private static LastRower pierOf9() {
        return beaten(pinched(told("p9 30 0;w10;"), 0), 2);
    }

    private static void planIsTheFirst() {
        says(19, "of several the first (PASSENGER by PASSENGER, nobody ahead of all; nobody where it is OVER)");
        LastRower x = told("p2 30 0;p9 30 0;p9 30 0;p1 30 0;w20;");
        due("plan(1, 0, 0)", x.plan(1, 0, 0), 1);
        due("plan(3, 0, 0)", x.plan(3, 0, 0), 0);
        due("plan(3, 0, 1)", x.plan(3, 0, 1), 1);
        due("plan(3, 0, 2)", x.plan(3, 0, 2), NOBODY);
        LastRower y = pinched(told("p9 30 0;p9 30 0;w10;"), 1);
        due("nobody ahead of all", y.plan(2, 0, 0), NOBODY);
        due("nobody ahead of all", y.plan(2, 0, 1), NOBODY);
        y.beat();
        due("nobody where it is OVER", y.plan(3, 0, -1), 1);
        due("nobody where it is OVER", y.plan(3, 0, 1), NOBODY);
        due("nobody where it is OVER", y.plan(3, 0, 2), NOBODY);
        for (int k = 0; k < 3; k++) {
            due("plan(3, 0, " + k + ") when OVER", atPier().plan(3, 0, k), NOBODY);
        }
        LastRower z = told("p7 30 0;p7 30 0;p3 30 0;w10;");
        due("plan(3, 3, 0)", z.plan(3, 3, 0), 0);
        due("plan(3, 3, 1)", z.plan(3, 3, 1), NOBODY);
        due("plan(2, 8, 1)", z.plan(2, 8, 1), NONE);
    }

    private static void planBeats() {
        says(19, "in how many BEATS (0 .. 400); whom ahead of the k-th BEAT (-5: nobody); NONE.");
        due("OVER now", atPier().plan(1, 0, -1), 0);
        due("in 400", farPier(31).plan(1, 0, -1), 400);
        due("in 400, whom", farPier(31).plan(1, 0, 0), NOBODY);
        for (int p = 0; p < 2; p++) {
            due("whoever is PINCHED", pinched(farPier(31), p).ends(), 400);
        }
        due("in 401", farPier(32).plan(1, 0, -1), NONE);
        due("in 401, whom", farPier(32).plan(1, 0, 0), NONE);
        due("never", told("p1 1 0;c0 1;").plan(3, 0, 2), NONE);
        says(19, "NONE (k at n or beyond, too).");
        changesNothing("plan(1, 0, 1)", BoundaryTest::midway, y -> y.plan(1, 0, 1), NONE);
        changesNothing("plan(1, 0, 2)", BoundaryTest::midway, y -> y.plan(1, 0, 2), NONE);
        changesNothing("plan(2, 0, 2)", BoundaryTest::midway, y -> y.plan(2, 0, 2), NONE);
        due("plan(2, 0, 1)", atPier().plan(2, 0, 1), NOBODY);
        due("plan(1, 0, 1) when OVER", atPier().plan(1, 0, 1), NONE);
        says(19, "BAD.");
        refuses("plan(3, 0, k)", BoundaryTest::midway, BAD, (y, k) -> y.plan(3, 0, k), -2, 3, MIN, MAX);
        refuses("plan(1, 61, k)", BoundaryTest::midway, BAD, (y, k) -> y.plan(1, 61, k), 1, 2);
        refuses("plan(4, 0, k) when OVER", BoundaryTest::atPier, BAD, (y, k) -> y.plan(4, 0, k), -1, 2);
    }

    private static void best() {
        says(20, "BEST to be PINCHED now (one of them): by whom it is OVER soonest, of several the lowest; NONE.");
        due("the strongest", told("p1 30 0;p2 30 0;p9 30 0;p8 30 0;w10;").best(), 2);
        due("the lowest of several", told("p1 30 0;p9 30 0;p9 30 0;w10;").best(), 1);
        due("the sixth", told("p1 30 0;p1 30 0;p1 30 0;p1 30 0;p1 30 0;p2 30 0;w10;").best(), 5);
        due("nobody would be sooner", pinchedBest(), 0);
        due("in 400", farPier(31).best(), 0);
        due("in 401", farPier(32).best(), NONE);
        says(20, "BEST; NONE.");
        due("OVER now", atPier().best(), NONE);
        due("never", told("p1 1 0;c0 1;").best(), NONE);
        due("nobody is there", new LastRower().best(), NONE);
    }

    /** Both row together now, so that any PINCH makes it later; one of them it is all the same. */
    private static int pinchedBest() {
        LastRower x = told("p5 30 1;p5 30 1;w10;");
        x.sings(1);
        due("nobody: in 1", x.ends(), 1);
        return x.best();
    }

    // ---- 21 to 25: who rows

    private static void mute() {
        says(21, "MUTE: PASSENGERS (bits) who have no oar now nor in any of the next n (0 .. 200) BEATS (once it is OVER nobody else has any).");
        LastRower x = told("p1 1 0;p1 30 0;p1 29 0;w200;");
        due("mute(0)", x.mute(0), 7);
        due("mute(1)", x.mute(1), 6);
        due("mute(28)", x.mute(28), 6);
        due("mute(29)", x.mute(29), 2);
        due("mute(30)", x.mute(30), 0);
        due("mute(200)", x.mute(200), 0);
        x.pinches(1);
        due("an oar now", x.mute(0), 5);
        due("an oar now, lost then", x.mute(1), 4);
        LastRower y = pinched(told("p9 30 0;p1 2 0;p1 3 0;w10;"), 0);
        due("nobody else once it is OVER", y.mute(200), 4);
        due("OVER now", atPier().mute(200), 7 & ~atPier().now(2));
        says(21, "MUTE, as bits.");
        due("all six", told(SIX).mute(0), 63);
        due("nobody there", new LastRower().mute(0), 0);
        says(21, "BAD.");
        refuses("mute", BoundaryTest::midway, BAD, LastRower::mute, -1, 201, MIN, MAX);
    }

    private static void seen() {
        says(22, "SEEN (5 at most)");
        LastRower x = told("p1 5 0;p1 3 0;w40;");
        says(22, "SEEN: how much there is.");
        for (int i = 1; i <= 5; i++) {
            due("seen(1, 2)", x.seen(1, 2), i);
        }
        due("count(3)", x.count(3), 5);
        says(22, "in k (0 .. 60) BEATS from NOW the OARS were told PASSENGERS' (bits).");
        LastRower y = told(SIX);
        due("seen(0, 63)", y.seen(0, 63), 1);
        due("seen(60, 0)", y.seen(60, 0), 2);
        refuses("seen(k, 0)", BoundaryTest::midway, BAD, (z, k) -> z.seen(k, 0), -1, 61, MIN, MAX);
        says(22, "BAD (OARS of PASSENGERS there are)");
        refuses("seen(0, oars)", BoundaryTest::midway, BAD, (z, o) -> z.seen(0, o), -1, 8, 9, 64, MIN, MAX);
        refuses("seen(0, oars) of six", () -> told(SIX), BAD, (z, o) -> z.seen(0, o), -1, 64, 127, MIN, MAX);
        refuses("seen(0, oars) of nobody", LastRower::new, BAD, (z, o) -> z.seen(0, o), -1, 1);
        due("seen(0, 0) of nobody", new LastRower().seen(0, 0), 1);
        says(22, "FULL.");
        changesNothing("seen(0, 0)", BoundaryTest::fullSeen, z -> z.seen(0, 0), FULL);
        changesNothing("seen(0, 8)", BoundaryTest::fullSeen, z -> z.seen(0, 8), BAD);
        changesNothing("seen(61, 0)", BoundaryTest::fullSeen, z -> z.seen(61, 0), BAD);
        due("when OVER too", atPier().seen(0, 0), 3);
    }

    private static void forget() {
        says(23, "Nothing was SEEN: how much there was.");
        due("forget() of nothing", new LastRower().forget(), 0);
        LastRower x = fullSeen();
        due("forget() of all", x.forget(), 5);
        due("forget() again", x.forget(), 0);
        due("count(3)", x.count(3), 0);
        due("who() by nothing SEEN", x.who(), 64 + 7);
        for (int i = 1; i <= 5; i++) {
            due("there is room again", x.seen(0, 0), i);
        }
        LastRower y = midway();
        y.forget();
        y.seen(3, 1);
        y.seen(0, 6);
        alike("nothing else is changed", y, midway());
    }

    private static void who() {
        says(24, "WHO: PASSENGERS (bits 0 .. 5) by whom, if just he were PINCHED now, all that was SEEN would be so (64: nobody).");
        LastRower x = told("p1 30 0;p1 30 0;p1 30 0;p1 30 0;p1 30 0;p1 30 0;w200;");
        due("nothing SEEN", x.who(), 127);
        x.seen(0, 32);
        due("the sixth, NOW", x.who(), 32);
        x.forget();
        x.seen(29, 0);
        due("nobody", x.who(), 64);
        x.seen(0, 1);
        due("not all that was SEEN", x.who(), 0);
        x.beat();
        x.forget();
        x.seen(29, 62);
        due("all but him who was PINCHED SPEAK", x.who(), 1);
        x.forget();
        x.seen(29, 63);
        due("all SPEAK if nobody was PINCHED", x.who(), 64);
        x.seen(30, 63);
        due("they have the oars still", x.who(), 64);
        LastRower y = told("p1 30 0;p1 29 0;w200;");
        y.seen(60, 1);
        due("in 60", y.who(), 64 | 1 | 2);
        y.forget();
        y.seen(59, 1);
        due("in 59", y.who(), 0);
        y.forget();
        for (int i = 0; i < 4; i++) {
            y.seen(0, 2);
        }
        due("four alike", y.who(), 2);
        y.seen(0, 1);
        due("the fifth counts too", y.who(), 0);
        says(24, "WHO, as bits.");
        LastRower z = pinched(told("p9 30 0;p9 30 0;w10;"), 0);
        beaten(z, 2);
        due("OVER: nobody alone can be thought of", z.who(), 64);
        z.seen(60, 1);
        due("OVER: the OARS stay", z.who(), 64);
        z.seen(0, 2);
        due("OVER: it is not so", z.who(), 0);
        LastRower soon = pinched(told("p9 30 0;p1 3 0;w10;"), 0);
        soon.beat();
        soon.seen(60, 1);
        due("it stays, once it is OVER", soon.who(), 64 | 1);
    }

    private static void odds() {
        says(25, "ODDS of a PASSENGER by x (0 .. 10), n (0 .. 6)");
        refuses("odds(p, 5, 3, 0)", BoundaryTest::midway, BAD, (y, p) -> y.odds(p, 5, 3, 0), -1, 3, 6, MIN, MAX);
        refuses("odds(0, x, 3, 0)", BoundaryTest::midway, BAD, (y, x) -> y.odds(0, x, 3, 0), -1, 11, MIN, MAX);
        refuses("odds(0, 5, n, 0)", BoundaryTest::midway, BAD, (y, n) -> y.odds(0, 5, n, 0), -1, 7, MIN, MAX);
        says(25, "ahead of each of the next n BEATS (as long as it is not OVER) he sneezes by x of 10, each for itself (he SPEAKS alone): that it is OVER behind them: a fraction.");
        // 1 holds it at YARD 2; as soon as 0 sneezes it is OVER a BEAT later.
        fraction("6 of 1 in 10", held(), 0, 1, 6, 468559, 1000000);
        fraction("6 of 9 in 10", held(), 0, 9, 6, 999999, 1000000);
        fraction("never", held(), 0, 0, 6, 0, 1);
        fraction("always", held(), 0, 10, 1, 1, 1);
        fraction("always", held(), 0, 10, 6, 1, 1);
        fraction("in no BEAT", held(), 0, 10, 0, 0, 1);
        fraction("in one", held(), 0, 5, 1, 1, 2);
        fraction("who can't help it", held(), 1, 5, 6, 0, 1);
        fraction("the sixth", told("p1 1 1;p1 1 1;p1 1 1;p1 1 1;p1 1 1;p9 30 0;w10;"), 5, 5, 1, 0, 1);
        // 0 has the oars and is over in two BEATS, unless 1 sneezes ahead of one of them.
        fraction("who does not sneeze rows on", pinched(told("p5 30 0;p1 30 0;w10;"), 0), 1, 3, 2, 49, 100);
        fraction("who can't keep still SPEAKS all the same", told("p9 1 0;p1 30 0;c0 8;w10;"), 1, 5, 6, 0, 1);
        fraction("at the very last BEAT", told("p9 2 0;p1 30 0;w18;"), 1, 0, 4, 1, 1);
        fraction("a BEAT too few", told("p9 2 0;p1 30 0;w18;"), 1, 0, 3, 0, 1);
        says(25, "ODDS: upper (what = 0), lower number (1), in least terms.");
        fraction("2 in 10", held(), 0, 2, 1, 1, 5);
        fraction("64 in 100 is not", held(), 0, 4, 2, 16, 25);
        fraction("OVER now", atPier(), 0, 0, 0, 1, 1);
        fraction("OVER now", atPier(), 0, 5, 6, 1, 1);
        says(25, "BAD.");
        refuses("odds(0, 5, 3, what)", BoundaryTest::midway, BAD, (y, w) -> y.odds(0, 5, 3, w), -1, 2, MIN, MAX);
        refuses("odds(p, 5, 3, 0) when OVER", BoundaryTest::atPier, BAD, (y, p) -> y.odds(p, 5, 3, 0), -1, 3);
    }

    private static LastRower held() {
        return beaten(pinched(told("p9 30 0;p1 30 0;c2 1;w10;"), 1), 2);
    }

    private static void fraction(String call, LastRower x, int p, int tenths, int n, int upper, int lower) {
        due("upper: " + call, x.odds(p, tenths, n, 0), upper);
        due("lower: " + call, x.odds(p, tenths, n, 1), lower);
    }

    // ---- 26 to 30: kinds, images

    private static LastRower rated() {
        LastRower x = told("p9 30 0;p1 30 0;p1 30 0;p1 30 0;p1 30 0;p2 29 0;w200;");
        x.pinches(5);
        x.pinches(5);
        x.pinches(5);
        return beaten(x, 28);
    }

    private static void rate() {
        says(26, "RATE of one as if of a KIND");
        says(26, "PASSENGER how STRONG he is (1).");
        rates(0, 5, 2, 1);
        rates(0, 0, 9, 1);
        says(26, "NUN up, and for how many BEATS he is SILENT (10).");
        rates(1, 5, 2 + 28, 11);
        says(26, "DOG up less how many BEATS he KEEPS (100).");
        rates(2, 5, 2 - 29, 101);
        rates(2, 1, 1 - 30, 101);
        says(26, "LOVER twice up (1000).");
        rates(3, 5, 2 * (2 + 28), 1011);
        says(26, "PARROT up, and his number (10000).");
        rates(4, 5, 2 - 29 + 5, 10101);
        rates(4, 0, 9 - 30, 10101);
        says(26, "CHILD up, and his WORDS (100000).");
        rates(5, 5, 2 + 3, 100001);
        rates(5, 0, 9, 100001);
        says(26, "KINDS of PASSENGERS are over one another: 0 PASSENGER; 1 NUN, 2 DOG, 5 CHILD (each under PASSENGER); 3 LOVER (under NUN); 4 PARROT (under DOG).");
        refuses("rate(kind, 0)", BoundaryTest::midway, NO, (y, kind) -> y.rate(kind, 0), -1, 6, MIN, MAX);
        says(26, "RATE. NO: BAD.");
        refuses("rate(0, p)", BoundaryTest::midway, NO, (y, p) -> y.rate(0, p), -1, 3, 6, MIN, MAX);
        says(26, "The constants: What none is, where a number may be below 0.");
        due("NO", LastRower.NO, NO);
        LastRower x = midway();
        LastRower twin = midway();
        x.rate(3, 2);
        for (int i = 0; i < 1011; i++) {
            twin.rate(0, 0);
        }
        alike("nothing but THE TRACE is changed", x, twin);
    }

    private static void rates(int kind, int p, int want, int added) {
        LastRower x = rated();
        due("rate(" + kind + ", " + p + ")", x.rate(kind, p), want);
        due("trace()", x.trace(), added);
    }

    private static void keep() {
        says(27, "An IMAGE is kept: THE BEAT.");
        LastRower x = new LastRower();
        due("keep(0)", x.keep(0), 0);
        beaten(x, 2);
        due("keep(1)", x.keep(1), 2);
        due("keep(0), again", x.keep(0), 2);
        due("back(0) to the later one", beaten(x, 1).back(0), 2);
        due("keep(1) when OVER", atPier().keep(1), atPier().now(0));
        says(27, "BAD.");
        refuses("keep", BoundaryTest::midway, BAD, LastRower::keep, -1, 2, MIN, MAX);
        LastRower y = midway();
        y.keep(1);
        due("what may be UNDONE stays", y.now(6), midway().now(6));
        y.undo();
        due("an IMAGE can't be UNDONE", y.back(1), 3);
    }

    private static void back() {
        says(28, "All of that becomes as an IMAGE has it: THE BEAT.");
        LastRower x = atPier();
        due("back(0)", x.back(0), 2);
        due("back(0) again", x.back(0), 2);
        says(28, "IMAGES 0, 1 keep NOW (THE BEAT, WHERE, OARS, SILENT, WORDS); nothing else (nothing can be UNDONE behind back()).");
        int[] now = {2, 6, 1, 4, 0, 1, 0};
        for (int what = 0; what < now.length; what++) {
            due("now(" + what + ")", x.now(what), now[what]);
        }
        for (int p = 0; p < 3; p++) {
            due("SILENT of " + p, x.passenger(p, 3), 2);
            due("WORDS of " + p, x.passenger(p, 4), p == 0 ? 1 : 0);
        }
        due("SEEN stays", x.count(3), 2);
        due("letters stay", x.count(4), 4);
        due("THE TRACE stays", x.trace(), 10101);
        due("undo()", x.undo(), STATE);
        x.beat();
        due("what is done then may be UNDONE", x.undo(), 0);
        LastRower pier = atPier();
        pier.keep(1);
        pier.back(0);
        due("not OVER", pier.now(4), 0);
        pier.back(1);
        due("OVER again", pier.now(4), 1);
        due("one IMAGE is not the other", pier.back(0), 2);
        says(28, "BAD");
        refuses("back", BoundaryTest::midway, BAD, LastRower::back, -1, 2, MIN, MAX);
        says(28, "STATE: none was kept.");
        changesNothing("back(1)", BoundaryTest::midway, y -> y.back(1), STATE);
        changesNothing("back(1) when OVER", BoundaryTest::atPier, y -> y.back(1), STATE);
        LastRower kept = told("p1 1 1;");
        kept.keep(1);
        due("back(0), of the other none was kept", kept.back(0), STATE);
        due("back(1)", kept.back(1), 0);
        says(28, "Refused, and nothing changes");
        due("back(2) with none kept", new LastRower().back(2), BAD);
    }

    private static void count() {
        says(29, "0 PASSENGERS, 1 WIDE, 2 CURRENTS, 3 SEEN, 4 letters of THE TEXT.");
        LastRower most = typed(told(SIX + "w200;c0 1;c1 1;c2 1;c3 1;"), " ".repeat(200));
        for (int i = 0; i < 6; i++) {
            most.seen(0, 0);
        }
        int[] want = {6, 200, 4, 5, 200};
        int[] none = {0, 60, 0, 0, 0};
        for (int what = 0; what < want.length; what++) {
            due("count(" + what + ")", most.count(what), want[what]);
            due("count(" + what + ") at first", new LastRower().count(what), none[what]);
        }
        says(29, "BAD.");
        refuses("count", BoundaryTest::midway, BAD, LastRower::count, -1, 5, MIN, MAX);
    }

    private static void trace() {
        says(30, "THE TRACE.");
        LastRower x = rated();
        due("trace()", x.trace(), 0);
        for (int i = 0; i < 400; i++) {
            x.rate(5, 0);
        }
        due("trace() of 400", x.trace(), 40000400L);
        says(30, "(numbers in brackets are added to THE TRACE, 0 at first, as often as rate() asks that body: each once; \"up\" is what the KIND above does)");
        long sum = 40000400L;
        int[] added = {1, 11, 101, 1011, 10101, 100001};
        for (int kind = 0; kind < 6; kind++) {
            x.rate(kind, 1);
            sum += added[kind];
            due("trace() of " + kind, x.trace(), sum);
        }
        x.rate(6, 0);
        x.rate(0, 6);
        due("what is refused adds nothing", x.trace(), sum);
        x.undo();
        x.keep(0);
        x.back(0);
        due("it stays", x.trace(), sum);
    }

    private static void constants() {
        due("BAD", LastRower.BAD, BAD);
        due("STATE", LastRower.STATE, STATE);
        due("FULL", LastRower.FULL, FULL);
        due("NONE", LastRower.NONE, NONE);
    }

    public static void main(String[] args) throws IOException {
        constants();
        newObject();
        everyCallOfNobody();
        type();
        clear();
        passengersTold();
        riverTold();
        tokens();
        wrongTokens();
        textEnds();
        ferry();
        passenger();
        current();
        now();
        beat();
        pinches();
        quarrels();
        sings();
        undo();
        nothingIsChanged();
        inBeats();
        ends();
        last();
        first();
        ring();
        drift();
        plan();
        best();
        mute();
        seen();
        forget();
        who();
        odds();
        rate();
        keep();
        back();
        count();
        trace();
        wrong += quotes.check(Path.of("../shared/DOC.md"));
        System.out.println(wrong == 0 ? "all boundaries hold: " + rows + " rows" : wrong + " rows are not as due");
        if (wrong != 0) {
            System.exit(1);
        }
    }

    /** Which words of the document have a test. */
    private static final class Quotes {
        private final Map<Integer, List<String>> quoted = new TreeMap<>();

        void add(int promise, String words) {
            quoted.computeIfAbsent(promise, p -> new ArrayList<>()).add(words);
        }

        /** How many quotes are not the document's, and how many of its parts no test quotes. */
        int check(Path document) throws IOException {
            if (!Files.exists(document)) {
                System.out.println("no " + document + " here: the quotes are not compared with it");
                return 0;
            }
            Map<Integer, String> parts = parts(Files.readString(document));
            Map<Integer, StringBuilder> left = new TreeMap<>();
            parts.forEach((part, words) -> left.put(part, new StringBuilder(words)));
            int missed = 0;
            for (Map.Entry<Integer, List<String>> of : quoted.entrySet()) {
                for (String words : of.getValue()) {
                    boolean own = strike(parts.get(of.getKey()), left.get(of.getKey()), words);
                    if (!own && !strike(parts.get(0), left.get(0), words)) {
                        missed++;
                        System.out.println("the document's promise " + of.getKey() + " does not say: " + words);
                    }
                }
            }
            for (Map.Entry<Integer, StringBuilder> of : left.entrySet()) {
                String rest = of.getValue().toString().replaceAll("[^A-Za-z0-9~]+", " ").replaceAll("[ ~]*~[ ~]*", "~");
                if (rest.matches(".*[A-Za-z0-9].*")) {
                    missed++;
                    System.out.println("no test quotes of promise " + of.getKey() + " (0: the terms): " + rest);
                }
            }
            return missed;
        }

        /** Part 0 is the terms; headings, faces and what the interface says ahead of calls promise nothing. */
        private static Map<Integer, String> parts(String document) {
            Map<Integer, String> parts = new TreeMap<>();
            int part = -1;
            for (String line : document.split("\n")) {
                Matcher promise = Pattern.compile("## Promise (\\d+): .*").matcher(line);
                if (promise.matches()) {
                    part = Integer.parseInt(promise.group(1));
                } else if (line.startsWith("## ")) {
                    part = line.equals("## Terms") ? 0 : -1;
                } else if (part >= 0 && !line.startsWith("```") && !line.startsWith("Ahead of the calls")) {
                    parts.merge(part, line, (a, b) -> a + " " + b);
                }
            }
            parts.replaceAll((p, words) -> words.replaceAll("`[^`]*`:?", " ").replaceAll("======== \\d", " ")
                .replaceAll("\\s+", " "));
            return parts;
        }

        private static boolean strike(String whole, StringBuilder left, String words) {
            if (whole == null || left == null) {
                return false;
            }
            int at = whole.indexOf(words);
            boolean found = at >= 0;
            for (; at >= 0; at = whole.indexOf(words, at + 1)) {
                for (int i = at; i < at + words.length(); i++) {
                    left.setCharAt(i, '~');
                }
            }
            return found;
        }
    }
}
