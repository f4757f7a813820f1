import java.util.Arrays;

/** A ferry that is rowed by whoever spoke last. The capital words are the document's own. */
public final class LastRower {
    public static final int BAD = -1, STATE = -2, FULL = -3, NONE = -9;
    public static final int NO = -1000000;

    private static final int MOST_PASSENGERS = 6;
    private static final int MOST_CURRENTS = 4;
    private static final int MOST_LETTERS = 200;
    private static final int MOST_SEEN = 5;
    private static final int LAST_SEEN_BEAT = 60;
    private static final int LAST_BEAT = 9999;
    private static final int LAST_YARD = 199;
    private static final int LAST_ASKED_YARD = 400;
    private static final int LAST_ASKED_BEAT = 200;
    private static final int HORIZON = 400;
    private static final int MOST_PLANNED = 3;
    private static final int MOST_PULL_ASKED = 60;
    private static final int MOST_SNEEZES = 6;
    private static final int TENTHS = 10;
    private static final int IMAGES = 2;
    private static final int NOBODY_BIT = 64;
    private static final int NOBODY = -5;

    private final Reader text = new Reader();
    private Ferry told = new Ferry();
    /** A text with a FAULT must change nothing, so it is read into this one first. */
    private Ferry spare = new Ferry();
    private final Moment present = new Moment();
    private final Past past = new Past();
    private final Moment[] images = new Moment[IMAGES];
    private int keptImages;
    private final int[] seenBeats = new int[MOST_SEEN];
    private final int[] seenOars = new int[MOST_SEEN];
    private int seenSize;
    /** Where what comes is tried: line 0 by most calls, one for each sneeze by odds(). */
    private final Moment[] lines = new Moment[MOST_SNEEZES + 1];
    private final Planner planner = new Planner();
    private final Passenger[] kinds = new Passenger[6];
    private final long[] tally = new long[1];

    public LastRower() {
        for (int i = 0; i < images.length; i++) {
            images[i] = new Moment();
        }
        for (int i = 0; i < lines.length; i++) {
            lines[i] = new Moment();
        }
        kinds[0] = new Passenger();
        kinds[1] = new Nun();
        kinds[2] = new Dog();
        kinds[3] = new Lover();
        kinds[4] = new Parrot();
        kinds[5] = new Child();
    }

    // ---- the ferry

    public int type(int letter) {
        if (letter < 0 || letter > 255) {
            return BAD;
        }
        return text.append(letter) ? text.length : FULL;
    }

    public int clear() {
        int had = text.length;
        text.length = 0;
        return had;
    }

    public int ferry() {
        int items = text.readInto(spare);
        if (items < 0) {
            return items;
        }
        Ferry older = told;
        told = spare;
        spare = older;
        text.length = 0;
        present.start(told);
        past.lose();
        keptImages = 0;
        seenSize = 0;
        return items;
    }

    public int passenger(int p, int what) {
        if (!told.has(p)) {
            return BAD;
        }
        switch (what) {
            case 0: return told.strong[p];
            case 1: return told.keeps[p];
            case 2: return told.chorus[p];
            case 3: return present.silenceOf(p);
            case 4: return present.wordsOf[p];
            case 5: return present.oars >> p & 1;
            default: return BAD;
        }
    }

    public int current(int y) {
        return y < 0 || y > LAST_ASKED_YARD ? BAD : told.flowAt(y);
    }

    public int now(int what) {
        switch (what) {
            case 0: return present.beats;
            case 1: return present.where;
            case 2: return present.oars;
            case 3: return told.pullOf(present.oars);
            case 4: return isOver() ? 1 : 0;
            case 5: return present.allWords();
            case 6: return past.size;
            default: return BAD;
        }
    }

    // ---- what is done

    public int beat() {
        if (isOver() || present.beats >= LAST_BEAT) {
            return STATE;
        }
        past.add(present);
        present.row(told);
        return present.where;
    }

    public int pinches(int p) {
        if (!told.has(p)) {
            return BAD;
        }
        if (isOver()) {
            return STATE;
        }
        utter(1 << p);
        return present.wordsOf[p];
    }

    public int quarrels(int a, int b) {
        if (!told.has(a) || !told.has(b) || a == b) {
            return BAD;
        }
        if (isOver()) {
            return STATE;
        }
        utter(1 << a | 1 << b);
        return told.pullOf(present.oars);
    }

    public int sings(int chorus) {
        if (chorus < 1 || chorus > 3) {
            return BAD;
        }
        int singers = told.singersOf(chorus);
        if (isOver() || singers == 0) {
            return STATE;
        }
        utter(singers);
        return told.pullOf(present.oars);
    }

    public int undo() {
        return past.restore(present) ? past.size : STATE;
    }

    private boolean isOver() {
        return told.isOver(present.where);
    }

    private void utter(int speakers) {
        past.add(present);
        present.speak(told, speakers);
    }

    // ---- what comes

    public int inBeats(int n, int what) {
        if (n < 0 || n > LAST_ASKED_BEAT || what < 0 || what > 2) {
            return BAD;
        }
        Moment then = copyOfNow();
        for (int i = 0; i < n; i++) {
            then.row(told);
        }
        if (what == 0) {
            return then.where;
        }
        return what == 1 ? then.oars : then.allWords() - present.allWords();
    }

    public int ends() {
        return copyOfNow().rowTillOver(told, HORIZON);
    }

    public int last() {
        Moment then = copyOfNow();
        return then.rowTillOver(told, HORIZON) == NONE ? NONE : then.oars;
    }

    public int first(int what) {
        if (what < 0 || what > 1) {
            return BAD;
        }
        if (told.passengers == 0) {
            return NONE;
        }
        return what == 0 ? present.nextDue - present.beats : present.whoIsDueAt(told, present.nextDue);
    }

    public int ring() {
        Moment then = copyOfNow();
        for (int n = 1; n <= HORIZON; n++) {
            then.passTime(told);
            if (then.soundsLike(told, present)) {
                return n;
            }
        }
        return NONE;
    }

    public int drift() {
        Moment then = copyOfNow();
        for (int n = 1; n <= HORIZON && !told.isOver(then.where); n++) {
            then.row(told);
            if (then.where < present.where) {
                return n;
            }
        }
        return NONE;
    }

    private Moment copyOfNow() {
        lines[0].copyFrom(present);
        return lines[0];
    }

    /** What asks of a PINCH now may think of no other than pinches() would do: of none when it is OVER. */
    private int countPinchable() {
        return isOver() ? 0 : told.passengers;
    }

    private Moment copyWherePinched(int p) {
        Moment then = copyOfNow();
        then.speak(told, 1 << p);
        return then;
    }

    // ---- whom to pinch

    public int plan(int n, int v, int k) {
        if (n < 1 || n > MOST_PLANNED || v < 0 || v > MOST_PULL_ASKED || k < -1 || k >= MOST_PLANNED) {
            return BAD;
        }
        if (k >= n) {
            return NONE;
        }
        planner.search(told, present, n, v);
        if (planner.soonest > HORIZON) {
            return NONE;
        }
        return k < 0 ? planner.soonest : planner.chosen[k];
    }

    public int best() {
        int bestPassenger = NONE;
        int soonest = HORIZON + 1;
        int pinchable = countPinchable();
        for (int p = 0; p < pinchable; p++) {
            int beats = copyWherePinched(p).rowTillOver(told, soonest - 1);
            if (beats != NONE) {
                soonest = beats;
                bestPassenger = p;
            }
        }
        return bestPassenger;
    }

    // ---- who rows

    public int mute(int n) {
        if (n < 0 || n > LAST_ASKED_BEAT) {
            return BAD;
        }
        Moment then = copyOfNow();
        int rowers = then.oars;
        for (int i = 0; i < n; i++) {
            then.row(told);
            rowers |= then.oars;
        }
        return told.everybody() & ~rowers;
    }

    public int seen(int k, int oars) {
        if (k < 0 || k > LAST_SEEN_BEAT || oars < 0 || oars > told.everybody()) {
            return BAD;
        }
        if (seenSize >= MOST_SEEN) {
            return FULL;
        }
        seenBeats[seenSize] = k;
        seenOars[seenSize] = oars;
        seenSize++;
        return seenSize;
    }

    public int forget() {
        int had = seenSize;
        seenSize = 0;
        return had;
    }

    public int who() {
        int bits = agreesWithSeen(copyOfNow()) ? NOBODY_BIT : 0;
        int pinchable = countPinchable();
        for (int p = 0; p < pinchable; p++) {
            if (agreesWithSeen(copyWherePinched(p))) {
                bits |= 1 << p;
            }
        }
        return bits;
    }

    public int odds(int p, int x, int n, int what) {
        if (!told.has(p) || x < 0 || x > TENTHS || n < 0 || n > MOST_SNEEZES || what < 0 || what > 1) {
            return BAD;
        }
        copyOfNow();
        int upper = waysOver(p, x, 0, n);
        int lower = powerOfTen(n);
        int shared = greatestShared(upper, lower);
        return (what == 0 ? upper : lower) / Math.max(shared, 1);
    }

    private boolean agreesWithSeen(Moment then) {
        int latest = latestSeen();
        for (int n = 0; n <= latest; n++) {
            if (contradictsSeen(n, then.oars)) {
                return false;
            }
            then.row(told);
        }
        return true;
    }

    private int latestSeen() {
        int latest = -1;
        for (int i = 0; i < seenSize && i < MOST_SEEN; i++) {
            latest = Math.max(latest, seenBeats[i]);
        }
        return latest;
    }

    private boolean contradictsSeen(int n, int oars) {
        for (int i = 0; i < seenSize && i < MOST_SEEN; i++) {
            if (seenBeats[i] == n && seenOars[i] != oars) {
                return true;
            }
        }
        return false;
    }

    /** Of the 10 to the (beats left) ways to go on from the line of this depth, those that end OVER. */
    private int waysOver(int p, int x, int depth, int left) {
        if (depth < 0 || depth >= lines.length) {
            return 0;
        }
        if (told.isOver(lines[depth].where)) {
            return powerOfTen(left);
        }
        if (left <= 0 || depth + 1 >= lines.length) {
            return 0;
        }
        Moment then = lines[depth + 1];
        then.copyFrom(lines[depth]);
        then.speak(told, 1 << p);
        then.row(told);
        int sneezed = x * waysOver(p, x, depth + 1, left - 1);
        then.copyFrom(lines[depth]);
        then.row(told);
        return sneezed + (TENTHS - x) * waysOver(p, x, depth + 1, left - 1);
    }

    private static int powerOfTen(int n) {
        int power = 1;
        for (int i = 0; i < n; i++) {
            power *= 10;
        }
        return power;
    }

    private static int greatestShared(int a, int b) {
        int more = a;
        int less = b;
        for (int i = 0; i < 64 && less != 0; i++) {
            int rest = more % less;
            more = less;
            less = rest;
        }
        return more;
    }

    // ---- kinds, images

    public int rate(int kind, int p) {
        if (kind < 0 || kind >= kinds.length || !told.has(p)) {
            return NO;
        }
        return kinds[kind].worth(told, present, p, tally);
    }

    public int keep(int image) {
        if (image < 0 || image >= IMAGES) {
            return BAD;
        }
        images[image].copyFrom(present);
        keptImages |= 1 << image;
        return present.beats;
    }

    public int back(int image) {
        if (image < 0 || image >= IMAGES) {
            return BAD;
        }
        if ((keptImages >> image & 1) == 0) {
            return STATE;
        }
        present.copyFrom(images[image]);
        past.lose();
        return present.beats;
    }

    public int count(int what) {
        switch (what) {
            case 0: return told.passengers;
            case 1: return told.wide;
            case 2: return told.currents;
            case 3: return seenSize;
            case 4: return text.length;
            default: return BAD;
        }
    }

    public long trace() {
        return tally[0];
    }

    /** THE TEXT, and the reading of it. */
    private static final class Reader {
        private static final int END = -1, NUMBER = -2, WRONG = -3;
        private static final int MOST_NUMBER = 200;
        private static final int FAULTS = -10;

        private final int[] letters = new int[MOST_LETTERS];
        private int length;
        private int place;
        /** The TOKEN read last: its sign or one of the above, where it starts, what it counts. */
        private int token;
        private int start;
        private int number;

        boolean append(int letter) {
            if (length >= MOST_LETTERS) {
                return false;
            }
            letters[length] = letter;
            length++;
            return true;
        }

        /** How many ITEMS, or -10 less FAULT. */
        int readInto(Ferry ferry) {
            ferry.empty();
            place = 0;
            int items = 0;
            readToken();
            while (items < MOST_LETTERS && token != END) {
                if (!readItem(ferry) || !readSemicolon()) {
                    return FAULTS - start;
                }
                items++;
                readToken();
            }
            ferry.settle();
            return items;
        }

        private boolean readItem(Ferry ferry) {
            switch (token) {
                case 'p': return ferry.passengers < MOST_PASSENGERS && readPassenger(ferry);
                case 'c': return ferry.currents < MOST_CURRENTS && readCurrent(ferry);
                case 'w': return !ferry.wideTold && readWide(ferry);
                default: return false;
            }
        }

        private boolean readPassenger(Ferry ferry) {
            if (!readNumber(1, 9)) {
                return false;
            }
            int strong = number;
            if (!readNumber(1, 30)) {
                return false;
            }
            int keeps = number;
            if (!readNumber(0, 3)) {
                return false;
            }
            ferry.addPassenger(strong, keeps, number);
            return true;
        }

        private boolean readCurrent(Ferry ferry) {
            if (!readNumber(0, LAST_YARD) || ferry.hasCurrentFrom(number)) {
                return false;
            }
            int yard = number;
            if (!readNumber(0, 8)) {
                return false;
            }
            ferry.addCurrent(yard, number);
            return true;
        }

        private boolean readWide(Ferry ferry) {
            if (!readNumber(10, 200)) {
                return false;
            }
            ferry.wide = number;
            ferry.wideTold = true;
            return true;
        }

        private boolean readSemicolon() {
            readToken();
            return token == ';';
        }

        private boolean readNumber(int least, int most) {
            readToken();
            return token == NUMBER && number >= least && number <= most;
        }

        private void readToken() {
            while (place < length && letters[place] == ' ') {
                place++;
            }
            start = place;
            if (place >= length) {
                token = END;
            } else if (isDigit(letters[place])) {
                readDigits();
            } else {
                token = letters[place];
                place++;
            }
        }

        private void readDigits() {
            number = 0;
            while (place < length && isDigit(letters[place])) {
                // A run of digits may be longer than an int holds; above the most it does not matter how far.
                number = Math.min(number * 10 + letters[place] - '0', MOST_NUMBER + 1);
                place++;
            }
            boolean zeroAhead = letters[start] == '0' && place - start > 1;
            token = zeroAhead || number > MOST_NUMBER ? WRONG : NUMBER;
        }

        private static boolean isDigit(int letter) {
            return letter >= '0' && letter <= '9';
        }
    }

    /** What a text told: PASSENGERS and the river. */
    private static final class Ferry {
        private static final int WIDE_AT_FIRST = 60;

        private int passengers;
        private final int[] strong = new int[MOST_PASSENGERS];
        private final int[] keeps = new int[MOST_PASSENGERS];
        private final int[] chorus = new int[MOST_PASSENGERS];
        private int currents;
        private final int[] currentYards = new int[MOST_CURRENTS];
        private final int[] currentFlows = new int[MOST_CURRENTS];
        private int wide = WIDE_AT_FIRST;
        private boolean wideTold;
        /** PULL by OARS and CURRENT by YARD, worked out once: plan() asks for them many thousand times. */
        private final int[] pulls = new int[1 << MOST_PASSENGERS];
        private final int[] flows = new int[LAST_YARD + 1];

        void empty() {
            passengers = 0;
            currents = 0;
            wide = WIDE_AT_FIRST;
            wideTold = false;
        }

        void addPassenger(int strength, int patience, int choir) {
            if (passengers < MOST_PASSENGERS) {
                strong[passengers] = strength;
                keeps[passengers] = patience;
                chorus[passengers] = choir;
                passengers++;
            }
        }

        void addCurrent(int yard, int flow) {
            if (currents < MOST_CURRENTS) {
                currentYards[currents] = yard;
                currentFlows[currents] = flow;
                currents++;
            }
        }

        boolean hasCurrentFrom(int yard) {
            for (int i = 0; i < currents && i < MOST_CURRENTS; i++) {
                if (currentYards[i] == yard) {
                    return true;
                }
            }
            return false;
        }

        void settle() {
            for (int oars = 0; oars < pulls.length; oars++) {
                pulls[oars] = findPull(oars);
            }
            for (int y = 0; y < flows.length; y++) {
                flows[y] = findFlow(y);
            }
        }

        private int findPull(int oars) {
            int choir = -1;
            int sum = 0;
            for (int p = 0; p < passengers && p < MOST_PASSENGERS; p++) {
                if ((oars >> p & 1) == 0) {
                    continue;
                }
                boolean together = choir < 0 || choir == chorus[p] && choir != 0;
                if (!together) {
                    return NONE;
                }
                choir = chorus[p];
                sum += strong[p];
            }
            return sum;
        }

        private int findFlow(int y) {
            int flow = 0;
            int nearest = -1;
            for (int i = 0; i < currents && i < MOST_CURRENTS; i++) {
                if (currentYards[i] <= y && currentYards[i] > nearest) {
                    nearest = currentYards[i];
                    flow = currentFlows[i];
                }
            }
            return flow;
        }

        boolean has(int p) {
            return p >= 0 && p < passengers && p < MOST_PASSENGERS;
        }

        int everybody() {
            return (1 << passengers) - 1;
        }

        int singersOf(int choir) {
            int singers = 0;
            for (int p = 0; p < passengers && p < MOST_PASSENGERS; p++) {
                if (chorus[p] == choir) {
                    singers |= 1 << p;
                }
            }
            return singers;
        }

        /** NONE if it goes ROUND. */
        int pullOf(int oars) {
            return oars < 0 || oars >= pulls.length ? 0 : pulls[oars];
        }

        int flowAt(int y) {
            return y < 0 ? 0 : flows[Math.min(y, LAST_YARD)];
        }

        boolean isOver(int where) {
            return where >= wide;
        }
    }

    /** How things are at one BEAT. */
    private static final class Moment {
        private static final int NEVER = 1000000000;

        private int beats;
        private int where;
        private int oars;
        /** THE BEAT since which each is SILENT, so that a BEAT in which nobody speaks need not touch them all. */
        private final int[] silentSince = new int[MOST_PASSENGERS];
        private final int[] wordsOf = new int[MOST_PASSENGERS];
        /** THE BEAT in which somebody can't keep still any more. */
        private int nextDue = NEVER;

        void start(Ferry ferry) {
            beats = 0;
            where = 0;
            Arrays.fill(silentSince, 0);
            Arrays.fill(wordsOf, 0);
            speak(ferry, 0);
        }

        void copyFrom(Moment other) {
            beats = other.beats;
            where = other.where;
            oars = other.oars;
            nextDue = other.nextDue;
            for (int p = 0; p < MOST_PASSENGERS; p++) {
                silentSince[p] = other.silentSince[p];
                wordsOf[p] = other.wordsOf[p];
            }
        }

        /** Asks no other method: it is the last of plan()'s calls, which go as deep as LANGUAGE.md lets them. */
        void speak(Ferry ferry, int speakers) {
            oars = speakers;
            nextDue = NEVER;
            for (int p = 0; p < ferry.passengers && p < MOST_PASSENGERS; p++) {
                if ((speakers >> p & 1) != 0) {
                    silentSince[p] = beats;
                    wordsOf[p]++;
                }
                int due = silentSince[p] + ferry.keeps[p];
                nextDue = due < nextDue ? due : nextDue;
            }
        }

        void row(Ferry ferry) {
            if (ferry.isOver(where)) {
                return;
            }
            int pull = ferry.pullOf(oars);
            if (pull != NONE) {
                where = Math.max(0, where + pull - ferry.flowAt(where));
            }
            passTime(ferry);
        }

        /** What a BEAT does but for the river. */
        void passTime(Ferry ferry) {
            beats++;
            if (beats >= nextDue) {
                speak(ferry, whoIsDueAt(ferry, beats));
            }
        }

        /** In how many BEATS (most at most) it is OVER; this Moment is the one then. */
        int rowTillOver(Ferry ferry, int most) {
            for (int n = 0; n <= most; n++) {
                if (ferry.isOver(where)) {
                    return n;
                }
                row(ferry);
            }
            return NONE;
        }

        int whoIsDueAt(Ferry ferry, int time) {
            int due = 0;
            for (int p = 0; p < ferry.passengers && p < MOST_PASSENGERS; p++) {
                if (silentSince[p] + ferry.keeps[p] <= time) {
                    due |= 1 << p;
                }
            }
            return due;
        }

        int silenceOf(int p) {
            return p < 0 || p >= MOST_PASSENGERS ? 0 : beats - silentSince[p];
        }

        int allWords() {
            int sum = 0;
            for (int p = 0; p < MOST_PASSENGERS; p++) {
                sum += wordsOf[p];
            }
            return sum;
        }

        /** Whether OARS and SILENT are alike. */
        boolean soundsLike(Ferry ferry, Moment other) {
            boolean alike = oars == other.oars;
            for (int p = 0; p < ferry.passengers && alike; p++) {
                alike = silenceOf(p) == other.silenceOf(p);
            }
            return alike;
        }
    }

    /** What can be UNDONE: the latest ten Moments, the oldest of them lost when one more comes. */
    private static final class Past {
        private static final int KNOWN = 10;

        private final Moment[] moments = new Moment[KNOWN];
        private int newest;
        private int size;

        Past() {
            for (int i = 0; i < KNOWN; i++) {
                moments[i] = new Moment();
            }
        }

        void lose() {
            size = 0;
        }

        void add(Moment moment) {
            newest = (newest + 1) % KNOWN;
            moments[newest].copyFrom(moment);
            size = Math.min(size + 1, KNOWN);
        }

        boolean restore(Moment moment) {
            if (size <= 0) {
                return false;
            }
            moment.copyFrom(moments[newest]);
            newest = (newest + KNOWN - 1) % KNOWN;
            size--;
            return true;
        }
    }

    /** The search for a PLAN. */
    private static final class Planner {
        private final Moment[] lines = new Moment[MOST_PLANNED + 1];
        private final int[] tried = new int[MOST_PLANNED];
        private final int[] chosen = new int[MOST_PLANNED];
        private int planned;
        private int leastPull;
        private int soonest;

        Planner() {
            for (int i = 0; i < lines.length; i++) {
                lines[i] = new Moment();
            }
        }

        /** Leaves the row in chosen, and in soonest its BEATS, which are above the HORIZON if there is none. */
        void search(Ferry ferry, Moment from, int n, int v) {
            planned = Math.min(n, MOST_PLANNED);
            leastPull = v;
            soonest = HORIZON + 1;
            lines[0].copyFrom(from);
            tryAll(ferry, 0);
        }

        private void tryAll(Ferry ferry, int depth) {
            if (depth < 0 || depth > planned || depth >= lines.length) {
                return;
            }
            if (depth == planned || ferry.isOver(lines[depth].where)) {
                weigh(ferry, depth);
                return;
            }
            for (int p = -1; p < ferry.passengers; p++) {
                tried[depth] = p < 0 ? NOBODY : p;
                Moment then = lines[depth + 1];
                then.copyFrom(lines[depth]);
                if (p >= 0) {
                    then.speak(ferry, 1 << p);
                }
                then.row(ferry);
                tryAll(ferry, depth + 1);
            }
        }

        /** Rows are tried first to last, so one that takes as long as the chosen one is no better. */
        private void weigh(Ferry ferry, int depth) {
            Moment then = lines[depth];
            int rest = then.rowTillOver(ferry, soonest - 1 - depth);
            if (rest == NONE || Math.max(0, ferry.pullOf(then.oars)) < leastPull) {
                return;
            }
            soonest = depth + rest;
            for (int k = 0; k < MOST_PLANNED; k++) {
                chosen[k] = k < depth ? tried[k] : NOBODY;
            }
        }
    }

    /** The KIND 0, a PASSENGER; its worth() adds to THE TRACE, which is tally[0]. */
    private static class Passenger {
        int worth(Ferry ferry, Moment moment, int p, long[] tally) {
            tally[0] += 1;
            return ferry.strong[p];
        }
    }

    private static class Nun extends Passenger {
        int worth(Ferry ferry, Moment moment, int p, long[] tally) {
            tally[0] += 10;
            return super.worth(ferry, moment, p, tally) + moment.silenceOf(p);
        }
    }

    private static class Dog extends Passenger {
        int worth(Ferry ferry, Moment moment, int p, long[] tally) {
            tally[0] += 100;
            return super.worth(ferry, moment, p, tally) - ferry.keeps[p];
        }
    }

    private static final class Lover extends Nun {
        int worth(Ferry ferry, Moment moment, int p, long[] tally) {
            tally[0] += 1000;
            return 2 * super.worth(ferry, moment, p, tally);
        }
    }

    private static final class Parrot extends Dog {
        int worth(Ferry ferry, Moment moment, int p, long[] tally) {
            tally[0] += 10000;
            return super.worth(ferry, moment, p, tally) + p;
        }
    }

    private static final class Child extends Passenger {
        int worth(Ferry ferry, Moment moment, int p, long[] tally) {
            tally[0] += 100000;
            return super.worth(ferry, moment, p, tally) + moment.wordsOf[p];
        }
    }
}
