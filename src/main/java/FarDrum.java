/** A drum of a valley that is struck next by whoever hears its latest stroke last. */
public final class FarDrum {
    public static final int BAD = -1, STATE = -2, FULL = -3, NONE = -9;
    public static final int NO = -1000000;

    private static final int MOST_VILLAGES = 6;
    private static final int MOST_MULES = 2;
    private static final int MOST_LETTERS = 200;
    private static final int MOST_REACH = 20;
    private static final int MOST_SLOW = 9;
    private static final int MOST_WAY = 9;
    private static final int MOST_MULE_WAY = 20;
    private static final int MOST_STROKES = 9999;
    private static final int MOST_UNDONE = 10;
    private static final int MOST_HEARD = 5;
    private static final int MOST_TOLD = 6;
    private static final int MOST_HEARD_BEAT = 200;
    private static final int MOST_TOLD_BEAT = 400;
    private static final int MOST_MEET_BEAT = 400;
    private static final int MOST_AHEAD = 60;
    private static final int MOST_WITHIN = 200;
    private static final int MOST_ODDS_STROKES = 6;
    private static final int TENTHS = 10;
    private static final int IMAGES = 2;
    private static final int FAULT_BASE = -10;
    private static final int NOBODY = -1;

    private final Text text;
    private Valley told;
    private Valley draft;
    private final State first;
    private final State state;
    private final Past past;
    private final State[] images;
    private final boolean[] imageKept;
    private final Course course;
    private final Course foggy;
    private final Kind[] kinds;
    private final int[] heardVillage;
    private final int[] heardBeat;
    private int heardCount;
    private final int[] toldBeat;
    private int toldCount;
    private final int[] chance;
    private final int[] laterChance;

    public FarDrum() {
        text = new Text();
        told = new Valley();
        draft = new Valley();
        first = new State();
        state = new State();
        past = new Past();
        images = new State[] {new State(), new State()};
        imageKept = new boolean[IMAGES];
        course = new Course();
        foggy = new Course();
        kinds = new Kind[] {new Kind(), new Hill(), new Mill(), new Hollow(), new Ford(), new Widow()};
        heardVillage = new int[MOST_HEARD];
        heardBeat = new int[MOST_HEARD];
        heardCount = 0;
        toldBeat = new int[MOST_TOLD];
        toldCount = 0;
        chance = new int[MOST_VILLAGES];
        laterChance = new int[MOST_VILLAGES];
    }

    // ---- the valley

    public int type(int letter) {
        if (!isWithin(letter, 0, 255)) {
            return BAD;
        }
        if (text.length >= MOST_LETTERS) {
            return FULL;
        }
        text.letters[text.length] = (char) letter;
        text.length++;
        return text.length;
    }

    public int clear() {
        int had = text.length;
        text.length = 0;
        return had;
    }

    public int valley() {
        int items = text.readInto(draft);
        if (items < 0) {
            return FAULT_BASE - text.place;
        }
        Valley old = told;
        told = draft;
        draft = old;
        beginAnew();
        return items;
    }

    public int village(int v, int what) {
        if (!isVillage(v)) {
            return BAD;
        }
        switch (what) {
            case 0: return state.slow[v];
            case 1: return state.deaf >> v & 1;
            case 2: return told.neighbours(v);
            case 3: return state.struck[v];
            default: return BAD;
        }
    }

    public int way(int a, int b) {
        if (!isVillage(a) || !isVillage(b)) {
            return BAD;
        }
        int beats = told.between(a, b);
        return beats == 0 ? NONE : beats;
    }

    public int hears(int a, int b) {
        if (!isVillage(a) || !isVillage(b)) {
            return BAD;
        }
        layAsNow();
        int beats = course.beatsTo(b, a);
        return beats == 0 ? NONE : beats;
    }

    public int now(int what) {
        switch (what) {
            case 0: return state.strokes;
            case 1: return state.beat;
            case 2: return state.place;
            case 3: return state.fog;
            case 4: return state.mules;
            case 5: return past.size;
            default: return BAD;
        }
    }

    // ---- what is done

    public int strikes() {
        if (told.villages == 0 || state.strokes >= MOST_STROKES) {
            return STATE;
        }
        layAsNow();
        int striker = course.next[state.place];
        if (striker == NOBODY) {
            return STATE;
        }
        past.push(state);
        state.strike(striker, state.beat + course.gap[state.place]);
        return striker;
    }

    public int fog(int is) {
        if (!isWithin(is, 0, 1)) {
            return BAD;
        }
        past.push(state);
        int was = state.fog;
        state.fog = is;
        return was;
    }

    public int cold(int v, int slow) {
        if (!isVillage(v) || !isWithin(slow, 0, MOST_SLOW)) {
            return BAD;
        }
        past.push(state);
        int was = state.slow[v];
        state.slow[v] = slow;
        return was;
    }

    public int deafens(int v, int is) {
        if (!isVillage(v) || !isWithin(is, 0, 1)) {
            return BAD;
        }
        past.push(state);
        int was = state.deaf >> v & 1;
        state.deaf = (state.deaf & ~(1 << v)) | (is << v);
        return was;
    }

    public int sends(int a, int b, int lasts) {
        if (!isVillage(a) || !isVillage(b) || a == b || !isWithin(lasts, 1, MOST_MULE_WAY)) {
            return BAD;
        }
        if (state.mules >= MOST_MULES) {
            return FULL;
        }
        past.push(state);
        state.addMule(a, b, lasts);
        return state.mules;
    }

    public int undo() {
        if (past.size == 0) {
            return STATE;
        }
        past.popInto(state);
        return past.size;
    }

    // ---- how it goes

    public int inStrokes(int n, int what) {
        if (!isWithin(n, 0, MOST_AHEAD) || !isWithin(what, 0, 1)) {
            return BAD;
        }
        if (told.villages == 0) {
            return NONE;
        }
        layAsNow();
        int place = state.place;
        int beat = state.beat;
        for (int i = 0; i < n; i++) {
            int striker = course.next[place];
            if (striker == NOBODY) {
                return NONE;
            }
            beat += course.gap[place];
            place = striker;
        }
        return what == 0 ? place : beat;
    }

    public int ends() {
        layAsNow();
        return course.goesOn(state.place) ? NONE : course.endsIn;
    }

    public int round(int what) {
        if (!isWithin(what, 0, 2)) {
            return BAD;
        }
        layAsNow();
        if (!course.goesOn(state.place)) {
            return NONE;
        }
        if (what == 0) {
            return course.roundFrom;
        }
        return what == 1 ? course.roundStrokes : course.roundBeats;
    }

    public int heardIn(int v, int n) {
        if (!isVillage(v) || !isWithin(n, 1, MOST_WITHIN)) {
            return BAD;
        }
        layAsNow();
        int heard = 0;
        int place = state.place;
        int beat = 0;
        // a stroke takes a beat at least, so there are no more of them than beats
        for (int i = 0; i <= MOST_WITHIN && place != NOBODY && beat <= n; i++) {
            int beats = course.beatsTo(place, v);
            if (beats > 0 && beat + beats <= n) {
                heard++;
            }
            beat += course.gap[place];
            place = course.next[place];
        }
        return heard;
    }

    // ---- who ends it, mules

    public int enders() {
        int bits = 0;
        for (int v = 0; v < told.villages; v++) {
            if ((state.deaf >> v & 1) == 1) {
                continue;
            }
            layAsNow();
            course.silence(v);
            if (!course.goesOn(state.place)) {
                bits |= 1 << v;
            }
        }
        return bits;
    }

    public int mules(int m, int what) {
        if (!isWithin(m, 1, MOST_MULE_WAY) || !isWithin(what, 0, 2)) {
            return BAD;
        }
        layAsNow();
        int fewest = course.fewestMules(state.place, m);
        if (what == 0) {
            return fewest;
        }
        int mule = what == 1 ? course.firstMule : course.secondMule;
        return mule == NOBODY ? NONE : 10 * (mule / MOST_VILLAGES) + mule % MOST_VILLAGES;
    }

    public int fastest() {
        layAsNow();
        int best = NONE;
        int bestStrokes = 0;
        int bestBeats = 0;
        for (int v = 0; v < told.villages; v++) {
            if (!course.goesOn(v)) {
                continue;
            }
            if (best == NONE || course.roundBeats * bestStrokes < bestBeats * course.roundStrokes) {
                best = v;
                bestStrokes = course.roundStrokes;
                bestBeats = course.roundBeats;
            }
        }
        return best;
    }

    // ---- what was heard

    public int heard(int v, int beat) {
        if (!isVillage(v) || !isWithin(beat, 0, MOST_HEARD_BEAT)) {
            return BAD;
        }
        if (heardCount >= MOST_HEARD) {
            return FULL;
        }
        heardVillage[heardCount] = v;
        heardBeat[heardCount] = beat;
        heardCount++;
        return heardCount;
    }

    public int forget() {
        int had = heardCount;
        heardCount = 0;
        return had;
    }

    public int mayBe() {
        layAsTold();
        int bits = 0;
        for (int v = 0; v < told.villages; v++) {
            if (isAllHeardFrom(v)) {
                bits |= 1 << v;
            }
        }
        return bits;
    }

    public int tells(int beat) {
        if (!isWithin(beat, 0, MOST_TOLD_BEAT)) {
            return BAD;
        }
        if (toldCount >= MOST_TOLD) {
            return FULL;
        }
        toldBeat[toldCount] = beat;
        toldCount++;
        return toldCount;
    }

    public int unsay() {
        int had = toldCount;
        toldCount = 0;
        return had;
    }

    public int tooMany() {
        int wrong = ((1 << toldCount) - 1) & ~toldThatWereStruck();
        return Integer.bitCount(wrong) > 1 ? NONE : wrong;
    }

    // ---- two drums, odds

    public int meet(int v, int what) {
        if (!isVillage(v) || !isWithin(what, 0, 1)) {
            return BAD;
        }
        layAsNow();
        int one = state.place;
        int two = v;
        int beatOne = 0;
        int beatTwo = 0;
        // whichever drum is behind goes on; each can do so once a beat at most
        for (int i = 0; i <= 2 * MOST_MEET_BEAT + 1; i++) {
            if (one == NOBODY || two == NOBODY || beatOne > MOST_MEET_BEAT || beatTwo > MOST_MEET_BEAT) {
                return NONE;
            }
            if (one == two && beatOne == beatTwo) {
                return what == 0 ? beatOne : one;
            }
            if (beatOne <= beatTwo) {
                beatOne += course.gap[one];
                one = course.next[one];
            } else {
                beatTwo += course.gap[two];
                two = course.next[two];
            }
        }
        return NONE;
    }

    public int odds(int v, int p, int n, int what) {
        if (!isVillage(v) || !isWithin(p, 0, TENTHS) || !isWithin(n, 0, MOST_ODDS_STROKES)
                || !isWithin(what, 0, 1)) {
            return BAD;
        }
        course.lay(told, state, 0);
        foggy.lay(told, state, 1);
        for (int i = 0; i < MOST_VILLAGES; i++) {
            chance[i] = i == state.place ? 1 : 0;
        }
        int lower = 1;
        for (int i = 0; i < n; i++) {
            spreadChances(p);
            lower *= TENTHS;
        }
        int upper = chance[v];
        int common = commonDivisor(upper, lower);
        if (common == 0) {
            return NONE;
        }
        return what == 0 ? upper / common : lower / common;
    }

    // ---- kinds, images

    public int rate(int kind, int v) {
        if (!isWithin(kind, 0, kinds.length - 1) || !isVillage(v)) {
            return NO;
        }
        return kinds[kind].worth(told, state, v);
    }

    public int keep(int image) {
        if (!isWithin(image, 0, IMAGES - 1)) {
            return BAD;
        }
        images[image].copy(state);
        imageKept[image] = true;
        return state.strokes;
    }

    public int back(int image) {
        if (!isWithin(image, 0, IMAGES - 1)) {
            return BAD;
        }
        if (!imageKept[image]) {
            return STATE;
        }
        state.copy(images[image]);
        past.size = 0;
        return state.strokes;
    }

    public int count(int what) {
        switch (what) {
            case 0: return told.villages;
            case 1: return told.reach;
            case 2: return told.start;
            case 3: return heardCount;
            case 4: return toldCount;
            case 5: return text.length;
            default: return BAD;
        }
    }

    public long trace() {
        long marks = 0;
        for (int i = 0; i < kinds.length; i++) {
            marks += kinds[i].marks;
        }
        return marks;
    }

    // ---- helpers

    private static boolean isWithin(int number, int least, int most) {
        return number >= least && number <= most;
    }

    private boolean isVillage(int v) {
        return v >= 0 && v < told.villages;
    }

    private void layAsNow() {
        course.lay(told, state, state.fog);
    }

    private void layAsTold() {
        course.lay(told, first, 0);
    }

    private void beginAnew() {
        text.length = 0;
        first.begin(told);
        state.copy(first);
        past.size = 0;
        // what was heard and told was of the drum of the earlier valley
        heardCount = 0;
        toldCount = 0;
        for (int i = 0; i < IMAGES; i++) {
            imageKept[i] = false;
        }
    }

    private boolean isAllHeardFrom(int start) {
        int open = (1 << heardCount) - 1;
        int place = start;
        int beat = 0;
        for (int i = 0; i <= MOST_HEARD_BEAT && place != NOBODY && beat <= MOST_HEARD_BEAT; i++) {
            for (int h = 0; h < heardCount; h++) {
                int beats = course.beatsTo(place, heardVillage[h]);
                if (beats > 0 && beat + beats == heardBeat[h]) {
                    open &= ~(1 << h);
                }
            }
            beat += course.gap[place];
            place = course.next[place];
        }
        return open == 0;
    }

    private int toldThatWereStruck() {
        int bits = 0;
        layAsTold();
        int place = told.villages == 0 ? NOBODY : told.start;
        int beat = 0;
        for (int i = 0; i <= MOST_TOLD_BEAT && place != NOBODY && beat <= MOST_TOLD_BEAT; i++) {
            for (int t = 0; t < toldCount; t++) {
                if (toldBeat[t] == beat) {
                    bits |= 1 << t;
                }
            }
            beat += course.gap[place];
            place = course.next[place];
        }
        return bits;
    }

    /** Chances count parts of ten to the power of the strokes so far; that of an ended drum is lost. */
    private void spreadChances(int p) {
        for (int i = 0; i < MOST_VILLAGES; i++) {
            laterChance[i] = 0;
        }
        for (int i = 0; i < MOST_VILLAGES; i++) {
            int clearNext = course.next[i];
            int foggyNext = foggy.next[i];
            if (clearNext != NOBODY) {
                laterChance[clearNext] += chance[i] * (TENTHS - p);
            }
            if (foggyNext != NOBODY) {
                laterChance[foggyNext] += chance[i] * p;
            }
        }
        System.arraycopy(laterChance, 0, chance, 0, MOST_VILLAGES);
    }

    private static int commonDivisor(int a, int b) {
        int large = a;
        int small = b;
        for (int i = 0; i < 64 && small != 0; i++) {
            int rest = large % small;
            large = small;
            small = rest;
        }
        return large;
    }

    /** Villages and ways as the text tells them. */
    private static final class Valley {
        int villages;
        int deaf;
        int reach = MOST_REACH;
        int start;
        boolean reachTold;
        boolean startTold;
        final int[] slow = new int[MOST_VILLAGES];
        private final int[] ways = new int[MOST_VILLAGES * MOST_VILLAGES];

        void empty() {
            villages = 0;
            deaf = 0;
            reach = MOST_REACH;
            start = 0;
            reachTold = false;
            startTold = false;
            for (int i = 0; i < MOST_VILLAGES; i++) {
                slow[i] = 0;
            }
            for (int i = 0; i < ways.length; i++) {
                ways[i] = 0;
            }
        }

        void addVillage(int slowness, int isDeaf) {
            if (villages >= MOST_VILLAGES) {
                return;
            }
            slow[villages] = slowness;
            deaf |= isDeaf << villages;
            villages++;
        }

        void addWay(int a, int b, int beats) {
            ways[a * MOST_VILLAGES + b] = beats;
            ways[b * MOST_VILLAGES + a] = beats;
        }

        /** How long the way is, 0 without one. */
        int between(int a, int b) {
            return ways[a * MOST_VILLAGES + b];
        }

        /** In how many beats the way is heard over, 0 if it is not. */
        int heardOver(int a, int b, int fog) {
            int beats = between(a, b) << fog;
            return beats > reach ? 0 : beats;
        }

        int neighbours(int v) {
            int bits = 0;
            for (int i = 0; i < villages; i++) {
                if (between(v, i) > 0) {
                    bits |= 1 << i;
                }
            }
            return bits;
        }

        int longestWay(int v) {
            int longest = 0;
            for (int i = 0; i < villages; i++) {
                longest = Math.max(longest, between(v, i));
            }
            return longest;
        }
    }

    /** The text, and the reading of its tokens. */
    private static final class Text {
        // tokens are known by their letter, or by one of these
        private static final int WRONG = 0;
        private static final int END = 1;
        private static final int NUMBER = 2;
        private static final int MOST_NUMBER = 20;
        private static final int TOO_LARGE = 1000;

        final char[] letters = new char[MOST_LETTERS];
        int length;
        /** Where the latest token begins: the fault, if it can't stand there. */
        int place;
        private int at;
        private int token;
        private int number;

        /** How many items there are; -1 at a fault. */
        int readInto(Valley valley) {
            valley.empty();
            at = 0;
            for (int items = 0; items <= MOST_LETTERS; items++) {
                readToken();
                if (token == END) {
                    return items;
                }
                if (!readItem(valley)) {
                    return -1;
                }
            }
            return -1;
        }

        private boolean readItem(Valley valley) {
            switch (token) {
                case 'v': return readVillage(valley);
                case 'e': return readWay(valley);
                case 'r': return readReach(valley);
                case 's': return readStart(valley);
                default: return false;
            }
        }

        private boolean readVillage(Valley valley) {
            if (valley.villages >= MOST_VILLAGES) {
                return false;
            }
            if (!readNumber(0, MOST_SLOW)) {
                return false;
            }
            int slow = number;
            if (!readNumber(0, 1)) {
                return false;
            }
            valley.addVillage(slow, number);
            return readItemEnd();
        }

        private boolean readWay(Valley valley) {
            if (!readNumber(0, valley.villages - 1)) {
                return false;
            }
            int a = number;
            if (!readNumber(0, valley.villages - 1) || number == a) {
                return false;
            }
            int b = number;
            if (!readNumber(1, MOST_WAY)) {
                return false;
            }
            valley.addWay(a, b, number);
            return readItemEnd();
        }

        private boolean readReach(Valley valley) {
            if (valley.reachTold || !readNumber(1, MOST_REACH)) {
                return false;
            }
            valley.reachTold = true;
            valley.reach = number;
            return readItemEnd();
        }

        private boolean readStart(Valley valley) {
            if (valley.startTold || !readNumber(0, valley.villages - 1)) {
                return false;
            }
            valley.startTold = true;
            valley.start = number;
            return readItemEnd();
        }

        private boolean readItemEnd() {
            readToken();
            return token == ';';
        }

        private boolean readNumber(int least, int most) {
            readToken();
            return token == NUMBER && number >= least && number <= most;
        }

        private void readToken() {
            while (at < length && letters[at] == ' ') {
                at++;
            }
            place = at;
            if (at >= length) {
                token = END;
                return;
            }
            char letter = letters[at];
            if (isDigit(letter)) {
                readDigits();
                return;
            }
            at++;
            token = isSign(letter) ? letter : WRONG;
        }

        private void readDigits() {
            number = 0;
            while (at < length && isDigit(letters[at])) {
                number = Math.min(number * 10 + letters[at] - '0', TOO_LARGE);
                at++;
            }
            boolean zeroAhead = letters[place] == '0' && at - place > 1;
            token = zeroAhead || number > MOST_NUMBER ? WRONG : NUMBER;
        }

        private static boolean isDigit(char letter) {
            return letter >= '0' && letter <= '9';
        }

        private static boolean isSign(char letter) {
            return letter == 'v' || letter == 'e' || letter == 'r' || letter == 's' || letter == ';';
        }
    }

    /** All that is done and undone, and kept by images. */
    private static final class State {
        int strokes;
        int beat;
        int place;
        int fog;
        int deaf;
        int mules;
        final int[] slow = new int[MOST_VILLAGES];
        final int[] struck = new int[MOST_VILLAGES];
        final int[] muleFrom = new int[MOST_MULES];
        final int[] muleTo = new int[MOST_MULES];
        final int[] muleBeats = new int[MOST_MULES];

        void begin(Valley valley) {
            strokes = 0;
            beat = 0;
            place = 0;
            fog = 0;
            deaf = valley.deaf;
            mules = 0;
            for (int i = 0; i < MOST_VILLAGES; i++) {
                slow[i] = valley.slow[i];
                struck[i] = 0;
            }
            if (valley.villages > 0) {
                strike(valley.start, 0);
            }
        }

        void strike(int striker, int atBeat) {
            strokes++;
            beat = atBeat;
            place = striker;
            struck[striker]++;
        }

        void addMule(int from, int to, int beats) {
            if (mules >= MOST_MULES) {
                return;
            }
            muleFrom[mules] = from;
            muleTo[mules] = to;
            muleBeats[mules] = beats;
            mules++;
        }

        void copy(State other) {
            strokes = other.strokes;
            beat = other.beat;
            place = other.place;
            fog = other.fog;
            deaf = other.deaf;
            mules = other.mules;
            System.arraycopy(other.slow, 0, slow, 0, MOST_VILLAGES);
            System.arraycopy(other.struck, 0, struck, 0, MOST_VILLAGES);
            System.arraycopy(other.muleFrom, 0, muleFrom, 0, MOST_MULES);
            System.arraycopy(other.muleTo, 0, muleTo, 0, MOST_MULES);
            System.arraycopy(other.muleBeats, 0, muleBeats, 0, MOST_MULES);
        }
    }

    /** The states ahead of what may be undone, the oldest first. */
    private static final class Past {
        int size;
        private final State[] states = new State[MOST_UNDONE];

        Past() {
            for (int i = 0; i < MOST_UNDONE; i++) {
                states[i] = new State();
            }
        }

        void push(State state) {
            if (size >= MOST_UNDONE) {
                dropOldest();
            }
            states[size].copy(state);
            size++;
        }

        void popInto(State state) {
            if (size <= 0) {
                return;
            }
            size--;
            state.copy(states[size]);
        }

        private void dropOldest() {
            State oldest = states[0];
            for (int i = 1; i < MOST_UNDONE; i++) {
                states[i - 1] = states[i];
            }
            states[MOST_UNDONE - 1] = oldest;
            size = MOST_UNDONE - 1;
        }
    }

    /** How strokes go while nothing changes: who hears whom, who strikes behind whom. */
    private static final class Course {
        private static final int PAIRS = MOST_VILLAGES * MOST_VILLAGES;

        /** Who strikes behind a stroke of each village, NOBODY if it ends there; in how many beats. */
        final int[] next = new int[MOST_VILLAGES];
        final int[] gap = new int[MOST_VILLAGES];
        int endsIn;
        int roundFrom;
        int roundStrokes;
        int roundBeats;
        /** Pairs: from whom, times the villages there may be, and to whom. */
        int firstMule;
        int secondMule;

        private final int[] hearing = new int[PAIRS];
        private final int[] slow = new int[MOST_VILLAGES];
        private final int[] metAt = new int[MOST_VILLAGES];
        private final int[] metBeat = new int[MOST_VILLAGES];
        private int villages;
        private int deaf;

        void lay(Valley valley, State state, int fog) {
            villages = valley.villages;
            deaf = state.deaf;
            System.arraycopy(state.slow, 0, slow, 0, MOST_VILLAGES);
            for (int from = 0; from < MOST_VILLAGES; from++) {
                for (int to = 0; to < MOST_VILLAGES; to++) {
                    hearing[from * MOST_VILLAGES + to] = isDeaf(to) ? 0 : valley.heardOver(from, to, fog);
                }
            }
            for (int i = 0; i < state.mules && i < MOST_MULES; i++) {
                shorten(state.muleFrom[i] * MOST_VILLAGES + state.muleTo[i], state.muleBeats[i]);
            }
            findAllNext();
        }

        /** In how many beats a stroke of one is heard by the other, 0 if it is not. */
        int beatsTo(int from, int to) {
            return hearing[from * MOST_VILLAGES + to];
        }

        void silence(int v) {
            deaf |= 1 << v;
            for (int from = 0; from < MOST_VILLAGES; from++) {
                hearing[from * MOST_VILLAGES + v] = 0;
            }
            findAllNext();
        }

        /** Whether it never ends; then the round is known, else when it ends. */
        boolean goesOn(int start) {
            for (int i = 0; i < MOST_VILLAGES; i++) {
                metAt[i] = NOBODY;
            }
            int place = start;
            int beat = 0;
            for (int strokes = 0; strokes <= MOST_VILLAGES; strokes++) {
                if (metAt[place] != NOBODY) {
                    roundFrom = metAt[place];
                    roundStrokes = strokes - metAt[place];
                    roundBeats = beat - metBeat[place];
                    return true;
                }
                metAt[place] = strokes;
                metBeat[place] = beat;
                if (next[place] == NOBODY) {
                    endsIn = strokes;
                    return false;
                }
                beat += gap[place];
                place = next[place];
            }
            return false;
        }

        /** The fewest mules by which it never ends, NONE if no two do; which ones are known then. */
        int fewestMules(int start, int beats) {
            firstMule = NOBODY;
            secondMule = NOBODY;
            if (goesOn(start)) {
                return 0;
            }
            firstMule = firstThatHelps(start, beats, 0);
            if (firstMule != NOBODY) {
                return 1;
            }
            for (int pair = 0; pair < PAIRS; pair++) {
                if (!isPairOfTwo(pair)) {
                    continue;
                }
                int was = lend(pair, beats);
                int other = firstThatHelps(start, beats, pair + 1);
                takeBack(pair, was);
                if (other != NOBODY) {
                    firstMule = pair;
                    secondMule = other;
                    return 2;
                }
            }
            return NONE;
        }

        private int firstThatHelps(int start, int beats, int fromPair) {
            for (int pair = fromPair; pair < PAIRS; pair++) {
                if (!isPairOfTwo(pair)) {
                    continue;
                }
                int was = lend(pair, beats);
                boolean helps = goesOn(start);
                takeBack(pair, was);
                if (helps) {
                    return pair;
                }
            }
            return NOBODY;
        }

        private boolean isPairOfTwo(int pair) {
            int from = pair / MOST_VILLAGES;
            int to = pair % MOST_VILLAGES;
            return from != to && from < villages && to < villages;
        }

        private int lend(int pair, int beats) {
            int was = hearing[pair];
            shorten(pair, beats);
            findNext(pair / MOST_VILLAGES);
            return was;
        }

        private void takeBack(int pair, int was) {
            hearing[pair] = was;
            findNext(pair / MOST_VILLAGES);
        }

        private void shorten(int pair, int beats) {
            boolean isShorter = hearing[pair] == 0 || hearing[pair] > beats;
            if (isShorter && !isDeaf(pair % MOST_VILLAGES)) {
                hearing[pair] = beats;
            }
        }

        private boolean isDeaf(int v) {
            return (deaf >> v & 1) == 1;
        }

        private void findAllNext() {
            for (int from = 0; from < MOST_VILLAGES; from++) {
                findNext(from);
            }
        }

        private void findNext(int from) {
            int latest = 0;
            next[from] = NOBODY;
            gap[from] = 0;
            for (int to = 0; to < villages; to++) {
                int beats = beatsTo(from, to);
                if (beats > latest) {
                    latest = beats;
                    next[from] = to;
                    gap[from] = beats + slow[to];
                }
            }
        }
    }

    /** A kind of villages; the one that all others are under. */
    private static class Kind {
        /** What the bodies that were asked added to the trace. */
        long marks;

        int worth(Valley valley, State state, int v) {
            marks += 1;
            return state.slow[v];
        }
    }

    private static class Hill extends Kind {
        int worth(Valley valley, State state, int v) {
            marks += 10;
            return super.worth(valley, state, v) + Integer.bitCount(valley.neighbours(v));
        }
    }

    private static class Mill extends Kind {
        int worth(Valley valley, State state, int v) {
            marks += 100;
            return super.worth(valley, state, v) - valley.longestWay(v);
        }
    }

    private static final class Hollow extends Hill {
        int worth(Valley valley, State state, int v) {
            marks += 1000;
            return 2 * super.worth(valley, state, v);
        }
    }

    private static final class Ford extends Mill {
        int worth(Valley valley, State state, int v) {
            marks += 10000;
            return super.worth(valley, state, v) + v;
        }
    }

    private static final class Widow extends Kind {
        int worth(Valley valley, State state, int v) {
            marks += 100000;
            return super.worth(valley, state, v) + state.struck[v];
        }
    }
}
