/** For each promise of the document: ordinary inputs, its edges, wrong inputs. */
public final class PromiseTest {
    private static int wrong = 0;
    private static int promise = 0;

    private static void due(String call, long got, long want) {
        if (got != want) {
            wrong++;
            System.out.println("promise " + promise + ": " + call + " answered " + got + ", due is " + want);
        }
    }

    private static void tell(LastRower x, String text) {
        for (int i = 0; i < text.length(); i++) {
            x.type(text.charAt(i));
        }
    }

    private static LastRower told(String text) {
        LastRower x = new LastRower();
        tell(x, text);
        int items = x.ferry();
        if (items < 0) {
            due("ferry() of " + text, items, 0);
        }
        return x;
    }

    private static void fault(String text, int place) {
        LastRower x = new LastRower();
        tell(x, text);
        due("ferry() of [" + text + "]", x.ferry(), -10 - place);
        due("letters kept of [" + text + "]", x.count(4), text.length());
    }

    private static LastRower rowed(String text, int pinched, int beats) {
        LastRower x = told(text);
        x.pinches(pinched);
        beats(x, beats);
        return x;
    }

    private static void beats(LastRower x, int n) {
        for (int i = 0; i < n; i++) {
            x.beat();
        }
    }

    public static void main(String[] args) {
        constants();
        promise = 1; newObject();
        promise = 2; type();
        promise = 3; clear();
        promise = 4; ferry();
        promise = 5; passenger();
        promise = 6; current();
        promise = 7; now();
        promise = 8; beat();
        promise = 9; pinches();
        promise = 10; quarrels();
        promise = 11; sings();
        promise = 12; undo();
        promise = 13; inBeats();
        promise = 14; ends();
        promise = 15; last();
        promise = 16; first();
        promise = 17; ring();
        promise = 18; drift();
        promise = 19; plan();
        promise = 20; best();
        promise = 21; mute();
        promise = 22; seen();
        promise = 23; forget();
        promise = 24; who();
        promise = 25; odds();
        promise = 26; rate();
        promise = 27; keep();
        promise = 28; back();
        promise = 29; count();
        promise = 30; trace();
        System.out.println(wrong == 0 ? "all promises hold" : wrong + " answers are not as due");
        if (wrong != 0) {
            System.exit(1);
        }
    }

    private static void constants() {
        due("BAD", LastRower.BAD, -1);
        due("STATE", LastRower.STATE, -2);
        due("FULL", LastRower.FULL, -3);
        due("NONE", LastRower.NONE, -9);
        due("NO", LastRower.NO, -1000000);
    }

    private static void newObject() {
        LastRower x = new LastRower();
        int[] counts = {0, 60, 0, 0, 0};
        for (int what = 0; what < counts.length; what++) {
            due("count(" + what + ")", x.count(what), counts[what]);
        }
        for (int what = 0; what <= 6; what++) {
            due("now(" + what + ")", x.now(what), 0);
        }
        due("passenger(0, 0)", x.passenger(0, 0), -1);
        due("current(0)", x.current(0), 0);
        due("pinches(0)", x.pinches(0), -1);
        due("back(0)", x.back(0), -2);
        due("undo()", x.undo(), -2);
        due("trace()", x.trace(), 0);
        due("beat()", x.beat(), 0);
        due("now(0)", x.now(0), 1);
    }

    private static void type() {
        LastRower x = new LastRower();
        due("type(0)", x.type(0), 1);
        due("type(255)", x.type(255), 2);
        due("type(-1)", x.type(-1), -1);
        due("type(256)", x.type(256), -1);
        due("type(min)", x.type(Integer.MIN_VALUE), -1);
        for (int i = 3; i <= 200; i++) {
            due("type(32)", x.type(32), i);
        }
        due("type(32), the 201st", x.type(32), -3);
        due("type(256), the 201st", x.type(256), -1);
        due("count(4)", x.count(4), 200);
        x.clear();
        due("type(32) behind clear()", x.type(32), 1);
    }

    private static void clear() {
        LastRower x = new LastRower();
        due("clear()", x.clear(), 0);
        tell(x, "p1 1 1;");
        due("clear()", x.clear(), 7);
        due("clear() again", x.clear(), 0);
        due("ferry()", x.ferry(), 0);
    }

    private static void ferry() {
        due("empty", new LastRower().ferry(), 0);
        LastRower blanks = new LastRower();
        tell(blanks, "   ");
        due("blanks", blanks.ferry(), 0);
        due("text is empty then", blanks.count(4), 0);
        LastRower x = new LastRower();
        tell(x, "  w  200 ;p9 30 3;c199 8;c0 0;p1 1 0 ; ");
        due("ferry()", x.ferry(), 5);
        due("WIDE", x.count(1), 200);
        due("PASSENGERS", x.count(0), 2);
        due("CURRENTS", x.count(2), 2);
        faults();
        LastRower y = new LastRower();
        tell(y, "p1 1 0;p1 1 0;p1 1 0;p1 1 0;p1 1 0;p1 1 0;c0 1;c1 1;c2 1;c3 1;w10;");
        due("all that may be", y.ferry(), 11);
        nothingChangesByAFault();
        allIsAnew();
    }

    private static void faults() {
        fault(";", 0);
        fault("  x", 2);
        fault("P1 1 1;", 0);
        fault("p", 1);
        fault("p  ", 3);
        fault("p1 1 1", 6);
        fault("p1 1 1 ", 7);
        fault("p0 1 1;", 1);
        fault("p10 1 1;", 1);
        fault("p1 0 1;", 3);
        fault("p1 31 1;", 3);
        fault("p1 1 4;", 5);
        fault("p1 1;", 4);
        fault("p1 1 1 1;", 7);
        fault("p01 1 1;", 1);
        fault("p1 1 00;", 5);
        fault("p1 1 1;p", 8);
        fault("p1 1 1p1 1 1;", 6);
        fault("c200 1;", 1);
        fault("c1 9;", 3);
        fault("c1 1;c2 1;c1 1;", 11);
        fault("c1 1;c2 1;c3 1;c4 1;c5 1;", 20);
        fault("w9;", 1);
        fault("w201;", 1);
        fault("w10;w10;", 4);
        fault("w99999999999999999999;", 1);
        fault("w4294967306;", 1);
        fault("w010;", 1);
        fault("w w", 2);
        fault("w-10;", 1);
        fault("w10\t;", 3);
        fault("p1 1 1;p1 1 1;p1 1 1;p1 1 1;p1 1 1;p1 1 1;  p1 1 1;", 44);
        fault("w 201", 2);
        fault("201", 0);
        fault("5", 0);
    }

    private static void nothingChangesByAFault() {
        LastRower x = told("p2 3 1;w20;c1 1;");
        x.pinches(0);
        x.beat();
        x.seen(1, 1);
        x.keep(0);
        tell(x, "p9 9 3;w30;c0 5;q");
        due("ferry()", x.ferry(), -26);
        due("STRONG", x.passenger(0, 0), 2);
        due("WIDE", x.count(1), 20);
        due("current(0)", x.current(0), 0);
        due("WHERE", x.now(1), 2);
        due("SEEN", x.count(3), 1);
        due("UNDONE", x.now(6), 2);
        due("letters", x.count(4), 17);
        due("back(0)", x.back(0), 1);
        x.clear();
        tell(x, "p9 9 3;");
        due("ferry() then", x.ferry(), 1);
        due("WIDE then", x.count(1), 60);
        due("CURRENTS then", x.count(2), 0);
    }

    private static void allIsAnew() {
        LastRower x = told("p2 3 1;p2 4 1;w20;c1 1;");
        x.pinches(0);
        beats(x, 4);
        x.seen(1, 1);
        x.keep(0);
        x.rate(1, 0);
        tell(x, "p3 4 2;");
        due("ferry()", x.ferry(), 1);
        for (int what = 0; what <= 6; what++) {
            due("now(" + what + ")", x.now(what), 0);
        }
        due("SILENT", x.passenger(0, 3), 0);
        due("WORDS", x.passenger(0, 4), 0);
        due("SEEN", x.count(3), 0);
        due("back(0)", x.back(0), -2);
        due("undo()", x.undo(), -2);
        due("PASSENGERS", x.count(0), 1);
        due("trace()", x.trace(), 11);
    }

    private static void passenger() {
        LastRower x = told("p4 5 1;p9 30 0;w200;");
        x.pinches(0);
        beats(x, 3);
        int[][] want = {{4, 5, 1, 3, 1, 1}, {9, 30, 0, 3, 0, 0}};
        for (int p = 0; p < 2; p++) {
            for (int what = 0; what < 6; what++) {
                due("passenger(" + p + ", " + what + ")", x.passenger(p, what), want[p][what]);
            }
        }
        due("passenger(2, 0)", x.passenger(2, 0), -1);
        due("passenger(-1, 0)", x.passenger(-1, 0), -1);
        due("passenger(0, 6)", x.passenger(0, 6), -1);
        due("passenger(0, -1)", x.passenger(0, -1), -1);
        due("passenger(max, 0)", x.passenger(Integer.MAX_VALUE, 0), -1);
        beats(x, 2);
        due("SILENT when he spoke", x.passenger(0, 3), 0);
        due("WORDS when he spoke", x.passenger(0, 4), 2);
    }

    private static void current() {
        LastRower x = told("c100 4;c10 8;c199 0;c50 1;");
        int[][] want = {{0, 0}, {9, 0}, {10, 8}, {49, 8}, {50, 1}, {99, 1}, {100, 4}, {198, 4}, {199, 0}, {400, 0}};
        for (int[] w : want) {
            due("current(" + w[0] + ")", x.current(w[0]), w[1]);
        }
        due("current(-1)", x.current(-1), -1);
        due("current(401)", x.current(401), -1);
        due("current(400) of one that goes on", told("c5 7;").current(400), 7);
    }

    private static void now() {
        LastRower x = told("p4 5 1;p3 5 1;p2 9 0;p2 9 0;w10;");
        due("PULL of nobody", x.now(3), 0);
        x.pinches(2);
        due("PULL of one without CHORUS", x.now(3), 2);
        x.quarrels(2, 3);
        due("PULL of two without CHORUS", x.now(3), -9);
        x.quarrels(1, 2);
        due("PULL of two, one without", x.now(3), -9);
        x.quarrels(1, 0);
        due("PULL of a CHORUS", x.now(3), 7);
        due("OARS", x.now(2), 3);
        due("WORDS of all", x.now(5), 7);
        due("UNDONE", x.now(6), 4);
        x.beat();
        due("BEAT", x.now(0), 1);
        due("WHERE", x.now(1), 7);
        due("OVER", x.now(4), 0);
        x.beat();
        due("WHERE", x.now(1), 14);
        due("OVER", x.now(4), 1);
        due("now(7)", x.now(7), -1);
        due("now(-1)", x.now(-1), -1);
    }

    private static void beat() {
        LastRower x = told("p5 2 1;p3 3 2;c0 1;c4 7;w40;");
        due("beat() 1", x.beat(), 0);
        due("beat() 2", x.beat(), 0);
        due("OARS", x.now(2), 1);
        due("beat() 3", x.beat(), 4);
        due("OARS", x.now(2), 2);
        due("beat() 4 against a CURRENT", x.beat(), 0);
        due("OARS", x.now(2), 1);
        due("beat() 5", x.beat(), 4);
        due("beat() 6", x.beat(), 2);
        due("OARS of both", x.now(2), 3);
        due("beat() ROUND", x.beat(), 2);
        LastRower y = told("p9 9 0;w10;");
        y.pinches(0);
        due("beat()", y.beat(), 9);
        due("beat()", y.beat(), 18);
        due("beat() when OVER", y.beat(), -2);
        due("BEAT", y.now(0), 2);
        LastRower z = told("p9 2 0;p1 9 0;w10;");
        z.pinches(1);
        z.beat();
        z.pinches(1);
        z.beat();
        due("who can't keep still SPEAKS", z.now(2), 1);
        LastRower late = new LastRower();
        beats(late, 9998);
        due("beat() to 9999", late.beat(), 0);
        due("beat() at 9999", late.beat(), -2);
        due("inBeats at 9999", late.inBeats(200, 0), 0);
    }

    private static void pinches() {
        LastRower x = told("p5 3 1;p3 3 2;w10;");
        x.beat();
        due("pinches(1)", x.pinches(1), 1);
        due("pinches(1)", x.pinches(1), 2);
        due("OARS", x.now(2), 2);
        due("pinches(0)", x.pinches(0), 1);
        due("OARS", x.now(2), 1);
        due("SILENT", x.passenger(0, 3), 0);
        due("BEAT", x.now(0), 1);
        due("pinches(2)", x.pinches(2), -1);
        due("pinches(-1)", x.pinches(-1), -1);
        beats(x, 2);
        due("pinches(0) when OVER", x.pinches(0), -2);
        due("pinches(2) when OVER", x.pinches(2), -1);
        due("UNDONE", x.now(6), 6);
    }

    private static void quarrels() {
        LastRower x = told("p5 9 1;p3 9 1;p2 9 2;p9 9 0;p8 9 0;w10;");
        due("quarrels(0, 1)", x.quarrels(0, 1), 8);
        due("quarrels(1, 2)", x.quarrels(1, 2), -9);
        due("quarrels(3, 4)", x.quarrels(3, 4), -9);
        due("quarrels(4, 0)", x.quarrels(4, 0), -9);
        due("OARS", x.now(2), 17);
        due("WORDS", x.passenger(4, 4), 2);
        due("quarrels(0, 0)", x.quarrels(0, 0), -1);
        due("quarrels(0, 5)", x.quarrels(0, 5), -1);
        due("quarrels(5, 0)", x.quarrels(5, 0), -1);
        due("quarrels(-1, 0)", x.quarrels(-1, 0), -1);
        due("quarrels(0, -1)", x.quarrels(0, -1), -1);
        due("WORDS of all", x.now(5), 8);
        x.quarrels(0, 1);
        beats(x, 2);
        due("quarrels(0, 1) when OVER", x.quarrels(0, 1), -2);
        due("quarrels(0, 0) when OVER", x.quarrels(0, 0), -1);
    }

    private static void sings() {
        LastRower x = told("p5 9 1;p3 9 2;p2 9 1;p4 9 0;p7 9 1;w15;");
        due("sings(1)", x.sings(1), 14);
        due("OARS", x.now(2), 21);
        due("sings(2)", x.sings(2), 3);
        due("sings(3)", x.sings(3), -2);
        due("sings(0)", x.sings(0), -1);
        due("sings(4)", x.sings(4), -1);
        due("sings(-1)", x.sings(-1), -1);
        due("WORDS of all", x.now(5), 4);
        x.sings(1);
        beats(x, 2);
        due("sings(1) when OVER", x.sings(1), -2);
        due("sings(4) when OVER", x.sings(4), -1);
    }

    private static void undo() {
        LastRower x = told("p5 2 1;p3 3 1;w100;");
        due("undo()", x.undo(), -2);
        x.beat();
        x.pinches(0);
        x.quarrels(0, 1);
        x.sings(1);
        x.pinches(7);
        x.quarrels(1, 1);
        x.sings(2);
        due("undo() of sings", x.undo(), 3);
        due("WORDS of all", x.now(5), 3);
        due("undo() of quarrels", x.undo(), 2);
        due("OARS", x.now(2), 1);
        due("SILENT", x.passenger(1, 3), 1);
        due("undo() of pinches", x.undo(), 1);
        due("OARS", x.now(2), 0);
        due("SILENT", x.passenger(0, 3), 1);
        due("undo() of beat", x.undo(), 0);
        due("BEAT", x.now(0), 0);
        due("SILENT", x.passenger(0, 3), 0);
        due("undo()", x.undo(), -2);
        beats(x, 13);
        for (int left = 9; left >= 0; left--) {
            due("undo()", x.undo(), left);
            due("BEAT", x.now(0), 3 + left);
        }
        due("undo() of what is lost", x.undo(), -2);
        x.beat();
        due("undo() behind a new beat", x.undo(), 0);
        LastRower y = told("p9 9 1;w10;");
        y.pinches(0);
        beats(y, 2);
        due("undo() when OVER", y.undo(), 2);
        due("OVER", y.now(4), 0);
    }

    private static void inBeats() {
        LastRower x = told("p4 5 1;p2 3 1;p6 7 0;c10 3;c0 1;w20;");
        due("inBeats(0, 0)", x.inBeats(0, 0), 0);
        due("inBeats(2, 1)", x.inBeats(2, 1), 0);
        due("inBeats(3, 1)", x.inBeats(3, 1), 2);
        due("inBeats(5, 1)", x.inBeats(5, 1), 1);
        due("inBeats(6, 0)", x.inBeats(6, 0), 5);
        due("inBeats(7, 2)", x.inBeats(7, 2), 4);
        x.pinches(2);
        due("inBeats(0, 2), from NOW", x.inBeats(0, 2), 0);
        due("inBeats(0, 1)", x.inBeats(0, 1), 4);
        due("inBeats(1, 0)", x.inBeats(1, 0), 5);
        due("nothing is changed", x.now(0) + x.now(1), 0);
        due("inBeats(-1, 0)", x.inBeats(-1, 0), -1);
        due("inBeats(201, 0)", x.inBeats(201, 0), -1);
        due("inBeats(0, -1)", x.inBeats(0, -1), -1);
        due("inBeats(0, 3)", x.inBeats(0, 3), -1);
        LastRower y = told("p9 1 1;w10;");
        due("it stays: WHERE", y.inBeats(200, 0), 18);
        due("it stays: WORDS", y.inBeats(200, 2), 3);
        due("it stays: OARS", y.inBeats(200, 1), 1);
    }

    private static void ends() {
        due("ends() of nobody", new LastRower().ends(), -9);
        LastRower x = told("p1 30 0;w200;");
        due("ends() from the first", x.ends(), 230);
        x.pinches(0);
        due("ends() with an oar", x.ends(), 200);
        LastRower y = told("p2 30 0;c0 1;c185 2;w185;");
        due("ends()", y.ends(), 215);
        LastRower slow = told("p1 1 0;p1 2 0;w200;");
        due("ends() in 400", slow.ends(), 400);
        // One alone has the oars twice in each six BEATS: 133 by the 398th, 134 by the 402nd.
        due("ends() in 398", told("p1 1 0;p1 2 0;p1 3 0;w133;").ends(), 398);
        due("ends() beyond 400", told("p1 1 0;p1 2 0;p1 3 0;w134;").ends(), -9);
        // 2 is pinched a BEAT late, so that one alone has the oars once in each three BEATS.
        LastRower third = told("p1 1 0;p1 3 0;p1 3 0;w135;");
        third.beat();
        third.pinches(2);
        due("ends() in 401", third.ends(), -9);
        third.beat();
        due("ends() in 400 again", third.ends(), 400);
        LastRower z = told("p9 30 0;w10;");
        z.pinches(0);
        beats(z, 2);
        due("ends() when OVER", z.ends(), 0);
        LastRower late = new LastRower();
        due("nobody, no CURRENT", late.ends(), -9);
    }

    private static void last() {
        due("last() of nobody", new LastRower().last(), -9);
        LastRower x = told("p5 2 0;p5 3 0;w10;");
        due("last(): who SPEAKS in the last BEAT has it", x.last(), 1);
        x.pinches(1);
        due("last()", x.last(), 1);
        LastRower y = told("p9 30 0;p1 5 0;w10;");
        y.pinches(0);
        due("last()", y.last(), 1);
        beats(y, 2);
        due("last() when OVER", y.last(), 1);
        due("last() NONE", told("p1 1 0;c0 1;").last(), -9);
        due("last() of a CHORUS", told("p5 2 1;p5 2 1;w10;").last(), 3);
    }

    private static void first() {
        LastRower x = told("p1 5 0;p1 3 0;p1 30 0;p1 3 0;w10;");
        due("first(0)", x.first(0), 3);
        due("first(1)", x.first(1), 10);
        x.beat();
        x.pinches(1);
        due("first(0)", x.first(0), 2);
        due("first(1)", x.first(1), 8);
        x.pinches(3);
        due("first(0)", x.first(0), 3);
        due("first(1)", x.first(1), 10);
        due("first(-1)", x.first(-1), -1);
        due("first(2)", x.first(2), -1);
        due("30", told("p1 30 0;").first(0), 30);
        due("first(0) of nobody", new LastRower().first(0), -9);
        due("first(1) of nobody", new LastRower().first(1), -9);
        due("first(2) of nobody", new LastRower().first(2), -1);
        LastRower y = told("p9 30 0;w10;");
        y.pinches(0);
        beats(y, 2);
        due("first(0) when OVER", y.first(0), 28);
    }

    private static void ring() {
        due("ring() of nobody", new LastRower().ring(), 1);
        LastRower x = told("p1 2 0;p1 3 0;w10;");
        due("ring() with no oar yet", x.ring(), -9);
        x.beat();
        due("ring() with no oar yet", x.ring(), -9);
        x.beat();
        due("ring()", x.ring(), 6);
        due("nothing is changed", x.now(0), 2);
        LastRower y = told("p9 7 0;p9 30 0;w10;");
        y.quarrels(0, 1);
        due("ring()", y.ring(), 210);
        LastRower z = told("p9 20 0;w10;");
        z.pinches(0);
        due("ring() beyond the pier", z.ring(), 20);
        beats(z, 2);
        due("ring() when OVER", z.ring(), 20);
        LastRower far = told("p9 19 0;p9 23 0;w10;");
        far.quarrels(0, 1);
        due("ring() beyond 400", far.ring(), -9);
        due("ring() in 400", rowed("p4 4 0;p1 16 1;p1 25 0;w82;", 0, 4).ring(), 400);
    }

    private static void drift() {
        due("drift() of nobody", new LastRower().drift(), -9);
        LastRower x = told("p9 30 0;p1 9 0;c5 3;w30;");
        x.pinches(0);
        x.beat();
        due("drift() ahead of which it is OVER", x.drift(), -9);
        x.pinches(1);
        due("drift()", x.drift(), 1);
        x.quarrels(0, 1);
        due("drift() behind going ROUND", x.drift(), 10);
        LastRower y = told("p9 30 0;c0 1;w10;");
        due("drift() at 0", y.drift(), -9);
        y.pinches(0);
        beats(y, 2);
        due("drift() when OVER", y.drift(), -9);
        due("drift() in 400", rowed("p6 17 1;p4 24 0;p7 30 0;p2 28 0;c4 5;w96;", 2, 2).drift(), 400);
        due("drift() in 401", rowed("p9 23 0;p9 17 1;p1 9 0;c29 7;c4 2;w57;", 1, 1).drift(), -9);
    }

    private static void plan() {
        LastRower x = told("p2 30 0;p9 30 0;p9 30 0;p1 30 0;w20;");
        due("plan(1, 0, -1)", x.plan(1, 0, -1), 3);
        due("plan(1, 0, 0)", x.plan(1, 0, 0), 1);
        due("plan(1, 0, 1)", x.plan(1, 0, 1), -9);
        due("plan(3, 2, -1)", x.plan(3, 2, -1), 3);
        due("plan(3, 2, 0): 2 and 9 and 9, first of several", x.plan(3, 2, 0), 0);
        due("plan(3, 2, 1)", x.plan(3, 2, 1), 1);
        due("plan(3, 2, 2): nobody ahead of all", x.plan(3, 2, 2), -5);
        due("plan(3, 9, 2)", x.plan(3, 9, 2), -5);
        due("plan(3, 10, -1)", x.plan(3, 10, -1), -9);
        due("plan(3, 10, 0)", x.plan(3, 10, 0), -9);
        due("plan(2, 0, 2)", x.plan(2, 0, 2), -9);
        due("nothing is changed", x.now(5), 0);
        planIsRefused(x);
        LastRower y = told("p9 30 0;w10;");
        y.pinches(0);
        y.beat();
        due("plan(3, 0, -1) soon OVER", y.plan(3, 0, -1), 1);
        due("plan(3, 0, 0)", y.plan(3, 0, 0), -5);
        due("plan(3, 0, 2): nobody where it is OVER", y.plan(3, 0, 2), -5);
        y.beat();
        due("plan(3, 9, -1) when OVER", y.plan(3, 9, -1), 0);
        due("plan(3, 9, 2) when OVER", y.plan(3, 9, 2), -5);
        due("plan(3, 10, -1) when OVER, too weak", y.plan(3, 10, -1), -9);
        LastRower goesRound = told("p9 2 0;p8 2 0;w10;");
        due("plan(1, 0, -1)", goesRound.plan(1, 0, -1), 2);
        due("plan(1, 0, 0)", goesRound.plan(1, 0, 0), 0);
        due("plan(1, 1, -1): ROUND is 0", goesRound.plan(1, 1, -1), -9);
        // The third speaks in every BEAT, so that a PULL at the pier is 7 at most.
        LastRower weak = told("p9 2 0;p8 2 0;p7 1 0;w19;");
        due("plan(3, 8, -1)", weak.plan(3, 8, -1), -9);
        due("plan(3, 7, -1)", weak.plan(3, 7, -1), 3);
        due("plan(3, 7, 0)", weak.plan(3, 7, 0), 0);
        due("plan(3, 7, 1)", weak.plan(3, 7, 1), -5);
        due("plan(3, 7, 2)", weak.plan(3, 7, 2), 0);
        due("plan of nobody", new LastRower().plan(1, 0, -1), -9);
        LastRower far = rowed("p1 9 1;p1 11 1;c0 1;w31;", 1, 0);
        due("plan(1, 0, -1) in 400", far.plan(1, 0, -1), 400);
        due("plan(1, 0, 0) in 400", far.plan(1, 0, 0), -5);
        due("plan(1, 0, -1) in 401", rowed("p1 1 1;p1 5 1;c0 0;c2 1;w82;", 0, 0).plan(1, 0, -1), -9);
    }

    private static void planIsRefused(LastRower x) {
        due("plan(0, 0, 0)", x.plan(0, 0, 0), -1);
        due("plan(4, 0, 0)", x.plan(4, 0, 0), -1);
        due("plan(1, -1, 0)", x.plan(1, -1, 0), -1);
        due("plan(1, 61, 0)", x.plan(1, 61, 0), -1);
        due("plan(1, 60, 0)", x.plan(1, 60, 0), -9);
        due("plan(1, 0, -2)", x.plan(1, 0, -2), -1);
        due("plan(1, 0, 3)", x.plan(1, 0, 3), -1);
        due("plan(3, 0, 3)", x.plan(3, 0, 3), -1);
    }

    private static void best() {
        due("best() of nobody", new LastRower().best(), -9);
        LastRower x = told("p2 30 0;p9 30 0;p9 30 0;w20;");
        due("best(), of several the lowest", x.best(), 1);
        x.pinches(1);
        due("best()", x.best(), 1);
        beats(x, 3);
        due("best() when OVER", x.best(), -9);
        due("best() NONE", told("p2 30 0;c0 2;").best(), -9);
        LastRower y = told("p1 30 0;p2 1 0;c0 1;w200;");
        due("best(), who is strong", y.best(), 1);
        due("best() in 400", rowed("p1 9 1;p1 11 1;c0 1;w31;", 1, 0).best(), 0);
        due("best() in 401", rowed("p1 1 1;p1 5 1;c0 0;c2 1;w82;", 0, 0).best(), -9);
    }

    private static void mute() {
        LastRower x = told("p1 5 0;p1 3 0;p1 30 0;w40;");
        due("mute(2)", x.mute(2), 7);
        due("mute(3)", x.mute(3), 5);
        due("mute(5)", x.mute(5), 4);
        due("mute(29)", x.mute(29), 4);
        due("mute(30)", x.mute(30), 0);
        x.pinches(2);
        due("mute(0): an oar now", x.mute(0), 3);
        due("mute(-1)", x.mute(-1), -1);
        due("mute(201)", x.mute(201), -1);
        due("mute(200) of nobody", new LastRower().mute(200), 0);
        LastRower y = told("p9 30 0;p1 5 0;w10;");
        y.pinches(0);
        due("mute(200): once it is OVER nobody else", y.mute(200), 2);
    }

    private static void seen() {
        LastRower x = told("p1 5 0;p1 3 0;w40;");
        due("seen(0, 0)", x.seen(0, 0), 1);
        due("seen(60, 3)", x.seen(60, 3), 2);
        due("seen(61, 0)", x.seen(61, 0), -1);
        due("seen(-1, 0)", x.seen(-1, 0), -1);
        due("seen(0, 4)", x.seen(0, 4), -1);
        due("seen(0, -1)", x.seen(0, -1), -1);
        due("seen(0, 0)", x.seen(0, 0), 3);
        due("seen(1, 1)", x.seen(1, 1), 4);
        due("seen(1, 2)", x.seen(1, 2), 5);
        due("seen(1, 2)", x.seen(1, 2), -3);
        due("seen(1, 4), FULL too", x.seen(1, 4), -1);
        due("count(3)", x.count(3), 5);
        LastRower nobody = new LastRower();
        due("seen(0, 1) of nobody", nobody.seen(0, 1), -1);
        due("seen(0, 0) of nobody", nobody.seen(0, 0), 1);
        due("seen(0, 63)", told("p1 1 1;p1 1 1;p1 1 1;p1 1 1;p1 1 1;p1 1 1;").seen(0, 63), 1);
    }

    private static void forget() {
        LastRower x = told("p1 5 0;w40;");
        due("forget()", x.forget(), 0);
        x.seen(0, 1);
        x.seen(0, 1);
        due("forget()", x.forget(), 2);
        due("count(3)", x.count(3), 0);
        due("who()", x.who(), 65);
        due("seen()", x.seen(0, 1), 1);
    }

    private static void who() {
        LastRower x = told("p1 5 0;p1 3 0;p1 4 0;w40;");
        due("who() by nothing SEEN", x.who(), 71);
        x.seen(0, 0);
        due("who(): nobody", x.who(), 64);
        x.forget();
        x.seen(0, 2);
        due("who(): 1", x.who(), 2);
        x.forget();
        x.seen(3, 2);
        due("who() in 3", x.who(), 64 | 1 | 2 | 4);
        x.beat();
        x.forget();
        x.seen(2, 2);
        due("who() from NOW: 1 has them by then or has them still", x.who(), 64 | 1 | 2 | 4);
        x.seen(3, 4);
        due("who() by two", x.who(), 64 | 1);
        x.seen(3, 4);
        due("who() by the same again", x.who(), 64 | 1);
        x.seen(3, 5);
        due("who() by what can't be", x.who(), 0);
        due("nothing is changed", x.now(5), 0);
        due("who() of nobody", new LastRower().who(), 64);
        whoWhenOver();
    }

    private static void whoWhenOver() {
        LastRower x = rowed("p9 30 0;p9 30 0;w10;", 0, 1);
        due("who() just ahead of being OVER", x.who(), 67);
        x.beat();
        due("OVER", x.now(4), 1);
        due("who() when OVER by nothing SEEN", x.who(), 64);
        x.seen(60, 1);
        due("who() when OVER by who has the oar", x.who(), 64);
        x.seen(0, 2);
        due("who() when OVER by who has none", x.who(), 0);
        x.forget();
        x.seen(0, 2);
        due("who() when OVER by one who can't be PINCHED", x.who(), 0);
        x.undo();
        due("who() when it is not OVER again", x.who(), 2);
    }

    private static void odds() {
        LastRower x = told("p9 30 0;p1 30 0;c0 1;w16;");
        due("odds(0, 5, 2, 0)", x.odds(0, 5, 2, 0), 1);
        due("odds(0, 5, 2, 1): once he sneezed the oars are his", x.odds(0, 5, 2, 1), 2);
        due("odds(0, 3, 2, 0)", x.odds(0, 3, 2, 0), 3);
        due("odds(0, 3, 2, 1)", x.odds(0, 3, 2, 1), 10);
        due("odds(0, 3, 3, 0)", x.odds(0, 3, 3, 0), 51);
        due("odds(0, 3, 3, 1)", x.odds(0, 3, 3, 1), 100);
        due("odds(0, 1, 6, 0)", x.odds(0, 1, 6, 0), 40951);
        due("odds(0, 1, 6, 1)", x.odds(0, 1, 6, 1), 100000);
        due("odds(0, 10, 2, 0)", x.odds(0, 10, 2, 0), 1);
        due("odds(0, 10, 2, 1)", x.odds(0, 10, 2, 1), 1);
        due("odds(0, 0, 6, 0)", x.odds(0, 0, 6, 0), 0);
        due("odds(0, 0, 6, 1)", x.odds(0, 0, 6, 1), 1);
        due("odds(1, 5, 6, 0)", x.odds(1, 5, 6, 0), 0);
        due("odds(0, 5, 0, 0)", x.odds(0, 5, 0, 0), 0);
        due("odds(0, 5, 0, 1)", x.odds(0, 5, 0, 1), 1);
        x.pinches(0);
        due("odds(1, 5, 2, 0)", x.odds(1, 5, 2, 0), 1);
        due("odds(1, 5, 2, 1)", x.odds(1, 5, 2, 1), 4);
        due("nothing is changed", x.now(5), 1);
        due("odds(2, 5, 2, 0)", x.odds(2, 5, 2, 0), -1);
        due("odds(-1, 5, 2, 0)", x.odds(-1, 5, 2, 0), -1);
        due("odds(0, 11, 2, 0)", x.odds(0, 11, 2, 0), -1);
        due("odds(0, -1, 2, 0)", x.odds(0, -1, 2, 0), -1);
        due("odds(0, 5, 7, 0)", x.odds(0, 5, 7, 0), -1);
        due("odds(0, 5, -1, 0)", x.odds(0, 5, -1, 0), -1);
        due("odds(0, 5, 2, 2)", x.odds(0, 5, 2, 2), -1);
        due("odds(0, 5, 2, -1)", x.odds(0, 5, 2, -1), -1);
        beats(x, 2);
        due("odds when OVER", x.odds(1, 5, 6, 0), 1);
        due("odds when OVER", x.odds(1, 5, 0, 1), 1);
    }

    private static LastRower rated() {
        LastRower x = told("p4 5 1;p9 30 0;p7 20 0;w200;");
        x.pinches(2);
        x.pinches(2);
        beats(x, 3);
        return x;
    }

    private static void rate() {
        LastRower x = rated();
        int[] want = {7, 10, -13, 20, -11, 9};
        for (int kind = 0; kind < 6; kind++) {
            due("rate(" + kind + ", 2)", x.rate(kind, 2), want[kind]);
        }
        due("rate(2, 1)", x.rate(2, 1), -21);
        due("rate(6, 0)", x.rate(6, 0), -1000000);
        due("rate(-1, 0)", x.rate(-1, 0), -1000000);
        due("rate(0, 3)", x.rate(0, 3), -1000000);
        due("rate(0, -1)", x.rate(0, -1), -1000000);
    }

    private static void keep() {
        LastRower x = told("p4 5 1;w200;");
        due("keep(0)", x.keep(0), 0);
        beats(x, 3);
        due("keep(1)", x.keep(1), 3);
        due("keep(0) again", x.keep(0), 3);
        due("keep(2)", x.keep(2), -1);
        due("keep(-1)", x.keep(-1), -1);
        due("UNDONE", x.now(6), 3);
        beats(x, 1);
        due("back(0)", x.back(0), 3);
    }

    private static void back() {
        LastRower x = told("p4 5 1;p2 7 1;w200;");
        due("back(0)", x.back(0), -2);
        due("back(2)", x.back(2), -1);
        due("back(-1)", x.back(-1), -1);
        x.pinches(0);
        beats(x, 3);
        x.keep(1);
        x.seen(0, 1);
        x.sings(1);
        beats(x, 4);
        due("back(0), of which none was kept", x.back(0), -2);
        due("UNDONE", x.now(6), 9);
        due("back(1)", x.back(1), 3);
        int[] want = {3, 12, 1, 4, 0, 1, 0};
        for (int what = 0; what < want.length; what++) {
            due("now(" + what + ")", x.now(what), want[what]);
        }
        due("SILENT", x.passenger(0, 3), 3);
        due("WORDS", x.passenger(0, 4), 1);
        due("SEEN stays", x.count(3), 1);
        due("undo()", x.undo(), -2);
        beats(x, 1);
        due("undo() of what came then", x.undo(), 0);
        beats(x, 2);
        due("back(1) again", x.back(1), 3);
        due("SILENT again", x.passenger(1, 3), 3);
    }

    private static void count() {
        LastRower x = told("p4 5 1;p2 7 1;p2 7 1;w200;c0 1;c1 1;");
        x.seen(0, 0);
        tell(x, "abcd");
        int[] want = {3, 200, 2, 1, 4};
        for (int what = 0; what < want.length; what++) {
            due("count(" + what + ")", x.count(what), want[what]);
        }
        due("count(5)", x.count(5), -1);
        due("count(-1)", x.count(-1), -1);
    }

    private static void trace() {
        long[] want = {1, 11, 101, 1011, 10101, 100001};
        for (int kind = 0; kind < 6; kind++) {
            LastRower x = rated();
            due("trace()", x.trace(), 0);
            x.rate(kind, 0);
            due("trace() of kind " + kind, x.trace(), want[kind]);
            x.rate(kind, 1);
            due("trace() of kind " + kind + " twice", x.trace(), 2 * want[kind]);
            x.rate(kind, 3);
            x.rate(6, 0);
            due("trace() behind what was refused", x.trace(), 2 * want[kind]);
        }
    }
}
