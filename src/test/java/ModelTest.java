import java.math.BigInteger;
import java.util.ArrayDeque;
import java.util.ArrayList;
import java.util.Deque;
import java.util.List;
import java.util.Random;
import java.util.TreeMap;

/** Runs of made-up calls (the same each time), answered by the class and by a plain model of the document. */
public final class ModelTest {
    private static final int RUNS = 3000;
    private static final int CALLS = 512;
    private static final int BAD = -1, STATE = -2, FULL = -3, NONE = -9;

    private record Passenger(int strong, int keeps, int chorus) { }

    /** A fault's place, thrown by the model's reading. */
    private static final class Fault extends Exception {
        private static final long serialVersionUID = 1L;
        final int place;

        Fault(int place) {
            this.place = place;
        }
    }

    private static final class Now {
        int beat, where, oars;
        int[] silent = new int[6], words = new int[6];

        Now copy() {
            Now c = new Now();
            c.beat = beat;
            c.where = where;
            c.oars = oars;
            c.silent = silent.clone();
            c.words = words.clone();
            return c;
        }

        int allWords() {
            int sum = 0;
            for (int w : words) {
                sum += w;
            }
            return sum;
        }
    }

    private static final class Model {
        StringBuilder text = new StringBuilder();
        List<Passenger> people = new ArrayList<>();
        TreeMap<Integer, Integer> currents = new TreeMap<>();
        int wide = 60;
        Now now = new Now();
        Deque<Now> past = new ArrayDeque<>();
        Now[] images = new Now[2];
        List<int[]> seen = new ArrayList<>();
        long trace = 0;

        // ---- reading
        int place;
        int start;

        String token() throws Fault {
            while (place < text.length() && text.charAt(place) == ' ') {
                place++;
            }
            start = place;
            if (place == text.length()) {
                return "";
            }
            int end = place;
            while (end < text.length() && "0123456789".indexOf(text.charAt(end)) >= 0) {
                end++;
            }
            end = Math.max(end, place + 1);
            String t = text.substring(place, end);
            place = end;
            if (Character.isDigit(t.charAt(0)) && "0123456789".indexOf(t.charAt(0)) >= 0) {
                if (t.length() > 1 && t.startsWith("0") || new BigInteger(t).compareTo(BigInteger.valueOf(200)) > 0) {
                    throw new Fault(start);
                }
            } else if ("pcw;".indexOf(t.charAt(0)) < 0) {
                throw new Fault(start);
            }
            return t;
        }

        int number(int least, int most) throws Fault {
            String t = token();
            if (t.isEmpty() || "pcw;".contains(t)) {
                throw new Fault(start);
            }
            int n = Integer.parseInt(t);
            if (n < least || n > most) {
                throw new Fault(start);
            }
            return n;
        }

        int ferry() {
            List<Passenger> readPeople = new ArrayList<>();
            TreeMap<Integer, Integer> readCurrents = new TreeMap<>();
            int readWide = 0;
            int items = 0;
            place = 0;
            try {
                for (String t = token(); !t.isEmpty(); t = token()) {
                    if (t.equals("p") && readPeople.size() < 6) {
                        readPeople.add(new Passenger(number(1, 9), number(1, 30), number(0, 3)));
                    } else if (t.equals("c") && readCurrents.size() < 4) {
                        int y = number(0, 199);
                        if (readCurrents.containsKey(y)) {
                            throw new Fault(start);
                        }
                        readCurrents.put(y, number(0, 8));
                    } else if (t.equals("w") && readWide == 0) {
                        readWide = number(10, 200);
                    } else {
                        throw new Fault(start);
                    }
                    if (!token().equals(";")) {
                        throw new Fault(start);
                    }
                    items++;
                }
            } catch (Fault f) {
                return -10 - f.place;
            }
            people = readPeople;
            currents = readCurrents;
            wide = readWide == 0 ? 60 : readWide;
            now = new Now();
            past.clear();
            images = new Now[2];
            seen.clear();
            text.setLength(0);
            return items;
        }

        // ---- the rules
        boolean has(int p) {
            return p >= 0 && p < people.size();
        }

        int current(int y) {
            return currents.floorEntry(y) == null ? 0 : currents.floorEntry(y).getValue();
        }

        boolean over(Now n) {
            return n.where >= wide;
        }

        boolean round(int oars) {
            if (Integer.bitCount(oars) < 2) {
                return false;
            }
            for (int a = 0; a < people.size(); a++) {
                for (int b = 0; b < people.size(); b++) {
                    boolean both = (oars >> a & 1) == 1 && (oars >> b & 1) == 1;
                    if (both && (people.get(a).chorus != people.get(b).chorus || people.get(a).chorus == 0)) {
                        return true;
                    }
                }
            }
            return false;
        }

        int strength(int oars) {
            int sum = 0;
            for (int p = 0; p < people.size(); p++) {
                sum += (oars >> p & 1) * people.get(p).strong;
            }
            return round(oars) ? 0 : sum;
        }

        int pull(int oars) {
            return round(oars) ? NONE : strength(oars);
        }

        void speak(Now n, int who) {
            n.oars = who;
            for (int p = 0; p < 6; p++) {
                if ((who >> p & 1) == 1) {
                    n.silent[p] = 0;
                    n.words[p]++;
                }
            }
        }

        void time(Now n) {
            n.beat++;
            int who = 0;
            for (int p = 0; p < people.size(); p++) {
                n.silent[p]++;
                if (n.silent[p] == people.get(p).keeps) {
                    who |= 1 << p;
                }
            }
            if (who != 0) {
                speak(n, who);
            }
        }

        void step(Now n) {
            if (over(n)) {
                return;
            }
            if (!round(n.oars)) {
                n.where = Math.max(0, n.where + strength(n.oars) - current(n.where));
            }
            time(n);
        }

        Now after(int beats) {
            Now n = now.copy();
            for (int i = 0; i < beats; i++) {
                step(n);
            }
            return n;
        }

        int endsOf(Now n) {
            for (int i = 0; i <= 400; i++) {
                if (over(n)) {
                    return i;
                }
                step(n);
            }
            return NONE;
        }

        void remember() {
            past.addLast(now.copy());
            if (past.size() > 10) {
                past.removeFirst();
            }
        }

        // ---- the calls
        int passenger(int p, int what) {
            if (!has(p) || what < 0 || what > 5) {
                return BAD;
            }
            Passenger one = people.get(p);
            int[] all = {one.strong, one.keeps, one.chorus, now.silent[p], now.words[p], now.oars >> p & 1};
            return all[what];
        }

        int nowOf(int what) {
            int[] all = {now.beat, now.where, now.oars, pull(now.oars), over(now) ? 1 : 0, now.allWords(), past.size()};
            return what < 0 || what > 6 ? BAD : all[what];
        }

        int beat() {
            if (over(now) || now.beat == 9999) {
                return STATE;
            }
            remember();
            step(now);
            return now.where;
        }

        int pinches(int p) {
            if (!has(p) || over(now)) {
                return has(p) ? STATE : BAD;
            }
            remember();
            speak(now, 1 << p);
            return now.words[p];
        }

        int quarrels(int a, int b) {
            if (!has(a) || !has(b) || a == b) {
                return BAD;
            }
            if (over(now)) {
                return STATE;
            }
            remember();
            speak(now, 1 << a | 1 << b);
            return pull(now.oars);
        }

        int sings(int chorus) {
            if (chorus < 1 || chorus > 3) {
                return BAD;
            }
            int who = 0;
            for (int p = 0; p < people.size(); p++) {
                who |= people.get(p).chorus == chorus ? 1 << p : 0;
            }
            if (over(now) || who == 0) {
                return STATE;
            }
            remember();
            speak(now, who);
            return pull(now.oars);
        }

        int undo() {
            if (past.isEmpty()) {
                return STATE;
            }
            now = past.removeLast();
            return past.size();
        }

        int inBeats(int n, int what) {
            if (n < 0 || n > 200 || what < 0 || what > 2) {
                return BAD;
            }
            Now then = after(n);
            return what == 0 ? then.where : what == 1 ? then.oars : then.allWords() - now.allWords();
        }

        int last() {
            int ends = endsOf(now.copy());
            return ends == NONE ? NONE : after(ends).oars;
        }

        int first(int what) {
            if (what < 0 || what > 1) {
                return BAD;
            }
            for (int n = 1; n <= 30; n++) {
                int who = 0;
                for (int p = 0; p < people.size(); p++) {
                    who |= people.get(p).keeps - now.silent[p] == n ? 1 << p : 0;
                }
                if (who != 0) {
                    return what == 0 ? n : who;
                }
            }
            return NONE;
        }

        int ring() {
            Now n = now.copy();
            for (int i = 1; i <= 400; i++) {
                time(n);
                boolean alike = n.oars == now.oars;
                for (int p = 0; p < people.size(); p++) {
                    alike &= n.silent[p] == now.silent[p];
                }
                if (alike) {
                    return i;
                }
            }
            return NONE;
        }

        int drift() {
            Now n = now.copy();
            for (int i = 1; i <= 400; i++) {
                if (over(n)) {
                    return NONE;
                }
                step(n);
                if (n.where < now.where) {
                    return i;
                }
            }
            return NONE;
        }

        /** Every row of n is tried whole, the first PASSENGER as the highest digit. */
        int plan(int n, int v, int k) {
            if (n < 1 || n > 3 || v < 0 || v > 60 || k < -1 || k > 2) {
                return BAD;
            }
            if (k >= n) {
                return NONE;
            }
            int base = people.size() + 1;
            int rows = (int) Math.pow(base, n);
            int soonest = 401;
            int[] chosen = null;
            for (int r = 0; r < rows; r++) {
                int[] row = {-1, -1, -1};
                for (int i = n - 1, rest = r; i >= 0; i--, rest /= base) {
                    row[i] = rest % base - 1;
                }
                Now m = now.copy();
                int beats = 0;
                boolean fair = true;
                for (int i = 0; i < n; i++) {
                    if (over(m)) {
                        fair &= row[i] < 0;
                        continue;
                    }
                    if (row[i] >= 0) {
                        speak(m, 1 << row[i]);
                    }
                    step(m);
                    beats++;
                }
                while (beats < 400 && !over(m)) {
                    step(m);
                    beats++;
                }
                if (fair && over(m) && strength(m.oars) >= v && beats < soonest) {
                    soonest = beats;
                    chosen = row;
                }
            }
            if (chosen == null) {
                return NONE;
            }
            return k < 0 ? soonest : chosen[k] < 0 ? -5 : chosen[k];
        }

        int best() {
            int soonest = 401;
            int best = NONE;
            for (int p = 0; p < people.size() && !over(now); p++) {
                Now m = now.copy();
                speak(m, 1 << p);
                int ends = endsOf(m);
                if (ends != NONE && ends < soonest) {
                    soonest = ends;
                    best = p;
                }
            }
            return best;
        }

        int mute(int n) {
            if (n < 0 || n > 200) {
                return BAD;
            }
            int mute = (1 << people.size()) - 1;
            for (int i = 0; i <= n; i++) {
                mute &= ~after(i).oars;
            }
            return mute;
        }

        int seenOf(int k, int oars) {
            if (k < 0 || k > 60 || oars < 0 || oars >= 1 << people.size()) {
                return BAD;
            }
            if (seen.size() == 5) {
                return FULL;
            }
            seen.add(new int[] {k, oars});
            return seen.size();
        }

        int forget() {
            int had = seen.size();
            seen.clear();
            return had;
        }

        int who() {
            int bits = 0;
            Now kept = now;
            for (int p = 0; p <= 6; p++) {
                if (p < 6 && (!has(p) || over(kept))) {
                    continue;
                }
                now = kept.copy();
                if (p < 6) {
                    speak(now, 1 << p);
                }
                boolean so = true;
                for (int[] s : seen) {
                    so &= after(s[0]).oars == s[1];
                }
                bits |= so ? 1 << p : 0;
            }
            now = kept;
            return bits;
        }

        int odds(int p, int x, int n, int what) {
            if (!has(p) || x < 0 || x > 10 || n < 0 || n > 6 || what < 0 || what > 1) {
                return BAD;
            }
            long upper = 0;
            for (int sneezes = 0; sneezes < 1 << n; sneezes++) {
                long weight = 1;
                Now m = now.copy();
                for (int i = 0; i < n; i++) {
                    boolean sneeze = (sneezes >> i & 1) == 1;
                    weight *= sneeze ? x : 10 - x;
                    if (sneeze && !over(m)) {
                        speak(m, 1 << p);
                    }
                    step(m);
                }
                upper += over(m) ? weight : 0;
            }
            BigInteger up = BigInteger.valueOf(upper);
            BigInteger low = BigInteger.TEN.pow(n);
            return (what == 0 ? up : low).divide(up.gcd(low)).intValue();
        }

        int rate(int kind, int p) {
            if (kind < 0 || kind > 5 || !has(p)) {
                return -1000000;
            }
            Passenger one = people.get(p);
            int[] rates = {one.strong, one.strong + now.silent[p], one.strong - one.keeps,
                2 * (one.strong + now.silent[p]), one.strong - one.keeps + p, one.strong + now.words[p]};
            trace += new int[] {1, 11, 101, 1011, 10101, 100001}[kind];
            return rates[kind];
        }

        int keep(int image) {
            if (image < 0 || image > 1) {
                return BAD;
            }
            images[image] = now.copy();
            return now.beat;
        }

        int back(int image) {
            if (image < 0 || image > 1) {
                return BAD;
            }
            if (images[image] == null) {
                return STATE;
            }
            now = images[image].copy();
            past.clear();
            return now.beat;
        }

        int count(int what) {
            int[] all = {people.size(), wide, currents.size(), seen.size(), text.length()};
            return what < 0 || what > 4 ? BAD : all[what];
        }

        int type(int letter) {
            if (letter < 0 || letter > 255) {
                return BAD;
            }
            if (text.length() == 200) {
                return FULL;
            }
            text.append((char) letter);
            return text.length();
        }

        int clear() {
            int had = text.length();
            text.setLength(0);
            return had;
        }
    }

    private static final Random made = new Random(20261118);
    private static final List<String> calls = new ArrayList<>();
    private static int wrong = 0;

    /** Mostly in the range, now and then just outside it, seldom far off. */
    private static int some(int least, int most) {
        int dice = made.nextInt(60);
        if (dice == 0) {
            return least - 1;
        }
        if (dice == 1) {
            return most + 1;
        }
        if (dice == 2 && made.nextInt(10) == 0) {
            return made.nextInt();
        }
        return least + made.nextInt(most - least + 1);
    }

    private static String madeText() {
        StringBuilder t = new StringBuilder();
        int people = 1 + made.nextInt(6);
        boolean patient = made.nextBoolean();
        for (int i = 0; i < people; i++) {
            t.append('p').append(1 + made.nextInt(9)).append(' ').append(1 + made.nextInt(patient ? 30 : 6));
            t.append(' ').append(made.nextInt(4)).append(';');
        }
        int currents = made.nextInt(4);
        for (int i = 0; i < currents; i++) {
            t.append("c ").append(made.nextInt(made.nextBoolean() ? 20 : 200)).append(' ');
            t.append(made.nextInt(made.nextBoolean() ? 3 : 9)).append(';');
        }
        if (made.nextInt(4) > 0) {
            t.append('w').append(10 + made.nextInt(191)).append(" ;");
        }
        for (int i = made.nextInt(4) == 0 ? 1 + made.nextInt(2) : 0; i > 0; i--) {
            spoil(t);
        }
        return t.toString();
    }

    private static void spoil(StringBuilder t) {
        int place = made.nextInt(t.length());
        char sign = "pcw; 00123456789xP\t".charAt(made.nextInt(19));
        switch (made.nextInt(3)) {
            case 0: t.setCharAt(place, sign); break;
            case 1: t.insert(place, sign); break;
            default: t.deleteCharAt(place); break;
        }
    }

    private static void due(String call, long got, long want) {
        calls.add(call + " = " + want);
        if (got != want) {
            wrong++;
            if (wrong <= 5) {
                System.out.println(call + " answered " + got + ", the model " + want + ", behind " + calls);
            }
        }
    }

    private static int tell(LastRower x, Model m, String text) {
        for (int i = 0; i < text.length(); i++) {
            int letter = text.charAt(i);
            due("type(" + letter + ")", x.type(letter), m.type(letter));
        }
        due("ferry()", x.ferry(), m.ferry());
        if (made.nextInt(3) > 0) {
            due("clear()", x.clear(), m.clear());
        }
        return text.length() + 2;
    }

    private static void done(LastRower x, Model m) {
        switch (made.nextInt(8)) {
            case 0: { int p = some(0, 5); due("pinches(" + p + ")", x.pinches(p), m.pinches(p)); break; }
            case 1: { int a = some(0, 5), b = some(0, 5);
                due("quarrels(" + a + ", " + b + ")", x.quarrels(a, b), m.quarrels(a, b)); break; }
            case 2: { int c = some(1, 3); due("sings(" + c + ")", x.sings(c), m.sings(c)); break; }
            case 3: due("undo()", x.undo(), m.undo()); break;
            default: due("beat()", x.beat(), m.beat()); break;
        }
    }

    private static void asked(LastRower x, Model m) {
        switch (made.nextInt(9)) {
            case 0: { int p = some(0, 5), w = some(0, 5);
                due("passenger(" + p + ", " + w + ")", x.passenger(p, w), m.passenger(p, w)); break; }
            case 1: { int y = some(0, 400);
                due("current(" + y + ")", x.current(y), y < 0 || y > 400 ? BAD : m.current(y)); break; }
            case 2: { int w = some(0, 6); due("now(" + w + ")", x.now(w), m.nowOf(w)); break; }
            case 3: { int k = some(0, 1); due("keep(" + k + ")", x.keep(k), m.keep(k)); break; }
            case 4: { int k = some(0, 1);
                if (made.nextInt(3) == 0) {
                    due("back(" + k + ")", x.back(k), m.back(k));
                }
                break; }
            case 5: { int w = some(0, 4); due("count(" + w + ")", x.count(w), m.count(w)); break; }
            case 6: { int k = some(0, 5), p = some(0, 5);
                due("rate(" + k + ", " + p + ")", x.rate(k, p), m.rate(k, p)); break; }
            case 7: due("trace()", x.trace(), m.trace); break;
            default: { int w = some(0, 1); due("first(" + w + ")", x.first(w), m.first(w)); break; }
        }
    }

    private static void foretold(LastRower x, Model m) {
        switch (made.nextInt(12)) {
            case 0: { int n = some(0, 200), w = some(0, 2);
                due("inBeats(" + n + ", " + w + ")", x.inBeats(n, w), m.inBeats(n, w)); break; }
            case 1: due("ends()", x.ends(), m.endsOf(m.now.copy())); break;
            case 2: due("last()", x.last(), m.last()); break;
            case 3: due("ring()", x.ring(), m.ring()); break;
            case 4: due("drift()", x.drift(), m.drift()); break;
            case 5: planned(x, m); break;
            case 6: due("best()", x.best(), m.best()); break;
            case 7: { int n = some(0, made.nextBoolean() ? 20 : 200); due("mute(" + n + ")", x.mute(n), m.mute(n)); break; }
            case 8: witnessed(x, m); break;
            case 9: if (made.nextInt(4) == 0) { due("forget()", x.forget(), m.forget()); } break;
            case 10: due("who()", x.who(), m.who()); break;
            default: { int p = some(0, 5), t = some(0, 10), n = some(0, 6), w = some(0, 1);
                due("odds(" + p + ", " + t + ", " + n + ", " + w + ")", x.odds(p, t, n, w), m.odds(p, t, n, w)); break; }
        }
    }

    /** Mostly with two BEATS at most: the model's rows of three are dear. */
    private static void planned(LastRower x, Model m) {
        int n = made.nextInt(12) == 0 ? 3 : some(1, 2);
        int v = made.nextBoolean() ? some(0, 60) : some(0, 9);
        int k = some(-1, 2);
        due("plan(" + n + ", " + v + ", " + k + ")", x.plan(n, v, k), m.plan(n, v, k));
    }

    /** Mostly something that will be so, else who() would seldom name anybody. */
    private static void witnessed(LastRower x, Model m) {
        int k = some(0, made.nextBoolean() ? 5 : 60);
        int oars = made.nextInt(4) == 0 ? some(0, 63) : m.after(Math.floorMod(k, 61)).oars;
        due("seen(" + k + ", " + oars + ")", x.seen(k, oars), m.seenOf(k, oars));
    }

    public static void main(String[] args) {
        for (int run = 0; run < RUNS && wrong == 0; run++) {
            LastRower x = new LastRower();
            Model m = new Model();
            calls.clear();
            int used = 0;
            while (used < CALLS - 210) {
                used += made.nextInt(150) == 0 || used == 0 && made.nextInt(20) > 0 ? tell(x, m, madeText()) : 1;
                int dice = made.nextInt(10);
                if (dice < 4) {
                    done(x, m);
                } else if (dice < 7) {
                    asked(x, m);
                } else {
                    foretold(x, m);
                }
            }
        }
        System.out.println(wrong == 0 ? "the class answers as the model" : wrong + " answers are not the model's");
        if (wrong != 0) {
            System.exit(1);
        }
    }
}
