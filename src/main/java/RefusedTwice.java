/**
 * Nobody is wed until each has said no to the other two times, in unlike words, on unlike days, and heard;
 * a third no undoes it all. The document ../shared/DOC.md says what each call answers.
 */
public final class RefusedTwice {
    public static final int NONE = -1, BAD = -2, STATE = -3, FULL = -4;
    public static final long NO = Long.MIN_VALUE;

    // Nobody, no day, no word, no row: the document answers all of these so.
    private static final int NIL = -5;
    private static final int NOTHING = -11, CAST = -12, PLACE = -13, SIZE = -14;

    private static final int MOST_PEOPLE = 6, KINDS = 7, WORDS = 4, ALL_WORDS = 15, PARTS = 4, MOST_DIGIT = 9;
    private static final int MOST_STREETS = 6, MOST_TEXT = 100, MOST_SIGN = 127, MOST_CLAUSES = 10, MOST_NESTED = 4;
    private static final int MOST_PASS = 60, LAST_DAY = 9999, MOST_WAIT = 30, MOST_AHEAD = 20;
    private static final int MOST_SAID = 5, SAID_WIDTH = 5, MOST_PLAN = 10, PLAN_WIDTH = 2;
    private static final int MOST_BOOK = 8, BOOK_WIDTH = 3, MOST_TRACE = 20, MATE = 10, CUT_SHORT = 100;
    private static final int TAPES = 6, MOST_ITEMS = 60;
    private static final int BYTES = 0, SHORTS = 1, INTS = 2, BOOLEANS = 4, EMPTY = -1;

    private final Town now = new Town();
    private final Town kept = new Town();
    private final Town trial = new Town();
    private boolean hasImage = false;

    private final byte[] text = new byte[MOST_TEXT];
    private int textSize = 0;
    private final Street[] streets = new Street[MOST_STREETS];
    private int streetCount = 0;

    // Of each one, those with higher numbers (as bits) whom it can be wed to in time.
    private final int[] laterFriends = new int[MOST_PEOPLE];
    private final int[] mostPairs = new int[1 << MOST_PEOPLE];

    private final Trace trace = new Trace();
    private final long[][] tapes = new long[TAPES][MOST_ITEMS];
    private final int[] tapeSorts = new int[TAPES];
    private final int[] tapeSizes = new int[TAPES];

    public RefusedTwice() {
        for (int i = 0; i < MOST_STREETS; i++) {
            streets[i] = new Street();
        }
        for (int i = 0; i < TAPES; i++) {
            tapeSorts[i] = EMPTY;
        }
    }

    // ---- people, streets

    public int one(int kind, int v) {
        if (!isWithin(kind, KINDS - 1)) {
            return NONE;
        }
        if (!isWithin(v, MOST_DIGIT)) {
            return BAD;
        }
        if (now.people >= MOST_PEOPLE) {
            return FULL;
        }
        return now.welcomes(newcomer(kind, v));
    }

    public int of(int person, int what) {
        if (!now.has(person)) {
            return NONE;
        }
        switch (what) {
            case 0:
                return now.who[person].kind;
            case 1:
                return now.who[person].v;
            case 2:
                return now.wed[person];
            case 3:
                return now.talliesBy(person);
            case 4:
                return now.talliesTo(person);
            default:
                return NONE;
        }
    }

    public int between(int one, int other, int what) {
        if (!now.has(one) || !now.has(other) || !isWithin(what, 5)) {
            return NONE;
        }
        if (one == other) {
            return BAD;
        }
        int pair = Town.pair(one, other);
        switch (what) {
            case 0:
                return now.tally[pair];
            case 1:
                return now.used[pair];
            case 2:
                return now.last[pair];
            case 3:
                return firstBit(now.countingWords(one, other, now.who[one].v, now.day));
            case 4:
                return now.twice(one, other);
            default:
                return now.awaited(one, other);
        }
    }

    public int counts(int one, int other, int word) {
        int fault = faultOfNo(one, other, word);
        if (fault != 0) {
            return fault;
        }
        return hasBit(now.countingWords(one, other, now.who[one].v, now.day), word) ? 1 : 0;
    }

    public int refuse(int one, int other, int word) {
        int fault = faultOfNo(one, other, word);
        return fault != 0 ? fault : now.hearsNo(one, other, word);
    }

    public int row(int person, int part, int n) {
        if (!now.has(person) || !isWithin(part, PARTS - 1)) {
            return NONE;
        }
        if (!isWithin(n, MOST_DIGIT)) {
            return BAD;
        }
        if (!(now.who[person] instanceof Told)) {
            return STATE;
        }
        int before = now.rows[person * PARTS + part];
        now.rows[person * PARTS + part] = n;
        return before;
    }

    public int feed(int sign) {
        if (!isWithin(sign, MOST_SIGN)) {
            return BAD;
        }
        if (textSize >= MOST_TEXT) {
            return FULL;
        }
        text[textSize] = (byte) sign;
        textSize++;
        return textSize;
    }

    public int street() {
        if (streetCount >= MOST_STREETS) {
            return FULL;
        }
        Street street = streets[streetCount];
        int fault = street.faultOf(text, textSize);
        textSize = 0;
        if (fault != Street.FLAWLESS) {
            return -10 - fault;
        }
        now.held = street;
        streetCount++;
        return streetCount - 1;
    }

    public int told(int what) {
        switch (what) {
            case 0:
                return now.day;
            case 1:
                return now.firstDay();
            case 2:
                return now.wedOnes();
            case 3:
                return now.tallies();
            case 4:
                return now.nearPairs();
            case 5:
                return now.firstNear();
            case 6:
                return now.wall();
            default:
                return NONE;
        }
    }

    public int pass(int n) {
        if (!isWithin(n, MOST_PASS)) {
            return BAD;
        }
        if (now.day + n > LAST_DAY) {
            return STATE;
        }
        now.day += n;
        return now.day;
    }

    // ---- pairs

    public int match(int n, int what) {
        if (what != 0 && (what < MATE || !now.has(what - MATE))) {
            return NONE;
        }
        if (!isWithin(n, MOST_WAIT)) {
            return BAD;
        }
        for (int i = 0; i < now.people; i++) {
            laterFriends[i] = 0;
            for (int j = i + 1; j < now.people; j++) {
                laterFriends[i] |= isWithin(now.awaited(i, j), n) ? 1 << j : 0;
            }
        }
        findMostPairs();
        return what == 0 ? mostPairs[everybody()] : mateOf(what - MATE);
    }

    // ---- said, odds

    public int say(int one, int other, int word, int n, boolean counted) {
        if (one == -1) {
            now.saidRows = 0;
            return 0;
        }
        int fault = faultOfNo(one, other, word);
        if (fault != 0) {
            return fault;
        }
        if (!isWithin(n, MOST_AHEAD)) {
            return BAD;
        }
        if (now.saidRows >= MOST_SAID) {
            return FULL;
        }
        int at = now.saidRows * SAID_WIDTH;
        now.said[at] = one;
        now.said[at + 1] = other;
        now.said[at + 2] = word;
        now.said[at + 3] = n;
        now.said[at + 4] = counted ? 1 : 0;
        now.saidRows++;
        return now.saidRows;
    }

    public int wrong() {
        for (int i = 0; i < now.saidRows; i++) {
            if (!now.isSo(i, now.who[now.said[i * SAID_WIDTH]].v)) {
                return i;
            }
        }
        return NIL;
    }

    public int can(int person, int what) {
        if (!now.has(person) || !isWithin(what, 1)) {
            return NONE;
        }
        int able = 0;
        for (int v = 0; v <= MOST_DIGIT; v++) {
            if (now.couldSay(person, v)) {
                able |= 1 << v;
            }
        }
        return what == 0 ? Integer.bitCount(able) : firstBit(able);
    }

    public long odds(int one, int other, int part) {
        if (!now.has(one) || !now.has(other) || one == other || !isWithin(part, 1)) {
            return NO;
        }
        int counting = now.countingWords(one, other, now.who[one].v, now.day);
        return partOfFraction(Integer.bitCount(counting), WORDS, part);
    }

    public long mean(int part) {
        if (!isWithin(part, 1) || now.people == 0) {
            return NO;
        }
        return partOfFraction(now.tallies(), now.people, part);
    }

    // ---- plans, books

    public int plan(int what, int n) {
        if (what == -1) {
            now.planRows = 0;
            return 0;
        }
        if (!isWithin(what, 1)) {
            return NONE;
        }
        int fault = what == 1 ? faultOfNo(Math.floorDiv(n, 100), tens(n), ones(n)) : 0;
        if (fault != 0) {
            return fault;
        }
        if (now.planRows >= MOST_PLAN) {
            return FULL;
        }
        now.plan[now.planRows * PLAN_WIDTH] = what;
        now.plan[now.planRows * PLAN_WIDTH + 1] = n;
        now.planRows++;
        return now.planRows;
    }

    public int ends(int what) {
        if (!isWithin(what, 1)) {
            return NONE;
        }
        trial.becomes(now);
        for (int i = 0; i < trial.planRows; i++) {
            int n = trial.plan[i * PLAN_WIDTH + 1];
            if (trial.plan[i * PLAN_WIDTH] == 0) {
                trial.day++;
            } else {
                trial.hearsNo(Math.floorDiv(n, 100), tens(n), ones(n));
            }
        }
        return what == 0 ? trial.wedOnes() : trial.tallies();
    }

    public int book(int one, int other, int tally) {
        if (one == -1) {
            now.bookRows = 0;
            return 0;
        }
        if (!now.has(one) || !now.has(other)) {
            return NONE;
        }
        if (one == other || !isWithin(tally, 2)) {
            return BAD;
        }
        if (now.bookRows >= MOST_BOOK) {
            return FULL;
        }
        int at = now.bookRows * BOOK_WIDTH;
        now.book[at] = one;
        now.book[at + 1] = other;
        now.book[at + 2] = tally;
        now.bookRows++;
        return now.bookRows;
    }

    public int looked() {
        for (int i = 0; i < now.bookRows; i++) {
            int at = i * BOOK_WIDTH;
            if (now.tally[Town.pair(now.book[at], now.book[at + 1])] != now.book[at + 2]) {
                return i;
            }
        }
        return NIL;
    }

    // ---- judging, the image, acts, tapes

    public int judge(int tape, int i) {
        if (!isTape(tape)) {
            return NONE;
        }
        if (tapeSorts[tape] != EMPTY && tapeSorts[tape] != BYTES) {
            return CAST;
        }
        for (int p = 0; p < now.people; p++) {
            if (i < 0 || i >= tapeSizes[tape] - p) {
                return CUT_SHORT + p;
            }
            if (tapes[tape][i + p] != now.wed[p]) {
                return p;
            }
        }
        return NIL;
    }

    public int image() {
        kept.becomes(now);
        hasImage = true;
        return now.people;
    }

    public int undo() {
        if (!hasImage) {
            return STATE;
        }
        now.becomes(kept);
        return now.people;
    }

    public int act(int person, int act, int x) {
        trace.ran = 0;
        if (!now.has(person)) {
            return 0;
        }
        switch (act) {
            case 0:
                return now.who[person].shuns(x);
            case 1:
                return now.who[person].scoffs(x);
            case 2:
                return now.who[person].tells(x);
            default:
                return 0;
        }
    }

    public int trace(int i) {
        if (i < 0 || i >= MOST_TRACE || i >= trace.ran) {
            return NONE;
        }
        return trace.bodies[i];
    }

    public int taken(int person, int k) {
        if (!isWithin(k, KINDS - 1)) {
            return BAD;
        }
        if (!now.has(person)) {
            return NOTHING;
        }
        return isOfKind(now.who[person], k) ? now.who[person].kind : CAST;
    }

    public int count(int what) {
        switch (what) {
            case 0:
                return now.people;
            case 1:
                return streetCount;
            case 2:
                return now.saidRows;
            case 3:
                return now.planRows;
            case 4:
                return now.bookRows;
            case 5:
                return textSize;
            case 6:
                return trace.ran;
            default:
                return BAD;
        }
    }

    public int tape(int tape, int sort, int n) {
        if (!isTape(tape)) {
            return NONE;
        }
        if (sort < EMPTY || sort > BOOLEANS || (sort != EMPTY && n > MOST_ITEMS)) {
            return BAD;
        }
        if (sort != EMPTY && n < 0) {
            return SIZE;
        }
        tapeSorts[tape] = sort;
        tapeSizes[tape] = sort == EMPTY ? 0 : n;
        for (int i = 0; i < MOST_ITEMS; i++) {
            tapes[tape][i] = 0;
        }
        return 1;
    }

    public int item(int tape, int i, long v) {
        if (!isTape(tape)) {
            return NONE;
        }
        if (tapeSorts[tape] == EMPTY) {
            return NOTHING;
        }
        if (i < 0 || i >= tapeSizes[tape]) {
            return PLACE;
        }
        tapes[tape][i] = narrowed(tapeSorts[tape], v);
        return 1;
    }

    public long read(int tape, int i) {
        if (!isTape(tape) || i < 0 || i >= tapeSizes[tape]) {
            return NO;
        }
        return tapes[tape][i];
    }

    public int shift(int tape, int i, int other, int j, int n) {
        if (!isTape(tape) || !isTape(other)) {
            return NONE;
        }
        if (tapeSorts[tape] == EMPTY || tapeSorts[other] == EMPTY) {
            return NOTHING;
        }
        if (tapeSorts[tape] != tapeSorts[other]) {
            return CAST;
        }
        if (n < 0 || i < 0 || j < 0 || i > tapeSizes[tape] - n || j > tapeSizes[other] - n) {
            return PLACE;
        }
        System.arraycopy(tapes[tape], i, tapes[other], j, n);
        return n;
    }

    // ---- what the calls above share

    private static boolean isWithin(int n, int most) {
        return n >= 0 && n <= most;
    }

    private static boolean isTape(int tape) {
        return isWithin(tape, TAPES - 1);
    }

    private static boolean hasBit(int bits, int place) {
        return (bits >> place & 1) != 0;
    }

    private static int firstBit(int bits) {
        for (int i = 0; i <= MOST_DIGIT; i++) {
            if (hasBit(bits, i)) {
                return i;
            }
        }
        return NIL;
    }

    private static int tens(int n) {
        return Math.floorMod(Math.floorDiv(n, 10), 10);
    }

    private static int ones(int n) {
        return Math.floorMod(n, 10);
    }

    /** 0: such a NO can be said. */
    private int faultOfNo(int one, int other, int word) {
        if (!now.has(one) || !now.has(other) || !isWithin(word, WORDS - 1)) {
            return NONE;
        }
        return one == other ? BAD : 0;
    }

    /** A part of the fraction above / below (1 or more), in lowest terms: 0 above, 1 below the line. */
    private static long partOfFraction(int above, int below, int part) {
        int asked = part == 0 ? above : below;
        for (int i = below; i > 1; i--) {
            if (above % i == 0 && below % i == 0) {
                return asked / i;
            }
        }
        return asked;
    }

    private One newcomer(int kind, int v) {
        switch (kind) {
            case 1:
                return new Kind(kind, now.people, v, trace);
            case 2:
                return new Scorner(kind, now.people, v, trace);
            case 3:
                return new Mute(kind, now.people, v, trace);
            case 4:
                return new Shy(kind, now.people, v, trace);
            case 5:
                return new Loud(kind, now.people, v, trace);
            case 6:
                return new Told(kind, now.people, v, trace);
            default:
                return new One(kind, now.people, v, trace);
        }
    }

    private static boolean isOfKind(One person, int kind) {
        switch (kind) {
            case 0:
                return person != null;
            case 1:
                return person instanceof Kind;
            case 2:
                return person instanceof Scorner;
            case 3:
                return person instanceof Mute;
            case 4:
                return person instanceof Shy;
            case 5:
                return person instanceof Loud;
            default:
                return person instanceof Told;
        }
    }

    private static long narrowed(int sort, long v) {
        switch (sort) {
            case BYTES:
                return (byte) v;
            case SHORTS:
                return (short) v;
            case INTS:
                return (int) v;
            case BOOLEANS:
                return v != 0 ? 1 : 0;
            default:
                return v;
        }
    }

    private int everybody() {
        return (1 << now.people) - 1;
    }

    /** Of each set of people (as bits) the most pairs of friends, nobody in two of them. */
    private void findMostPairs() {
        mostPairs[0] = 0;
        for (int set = 1; set <= everybody(); set++) {
            int first = firstBit(set);
            int others = set & ~(1 << first);
            int most = mostPairs[others];
            for (int j = first + 1; j < now.people; j++) {
                if (hasBit(others & laterFriends[first], j)) {
                    most = Math.max(most, 1 + mostPairs[others & ~(1 << j)]);
                }
            }
            mostPairs[set] = most;
        }
    }

    /** Goes through the people in order, giving each the first mate that still leaves the most pairs. */
    private int mateOf(int person) {
        int left = everybody();
        for (int i = 0; i < now.people; i++) {
            if (hasBit(left, i)) {
                int mate = firstMate(i, left);
                if (i == person) {
                    return mate;
                }
                if (mate == person) {
                    return i;
                }
                left &= ~(1 << i);
                left = mate == NIL ? left : left & ~(1 << mate);
            }
        }
        return NIL;
    }

    private int firstMate(int person, int left) {
        int others = left & ~(1 << person);
        for (int j = person + 1; j < now.people; j++) {
            if (hasBit(others & laterFriends[person], j) && 1 + mostPairs[others & ~(1 << j)] == mostPairs[left]) {
                return j;
            }
        }
        return NIL;
    }

    /** The numbers of the bodies that ran in the latest act. */
    static final class Trace {
        final int[] bodies = new int[MOST_TRACE];
        int ran = 0;

        void begins(int body) {
            if (ran < MOST_TRACE) {
                bodies[ran] = body;
            }
            ran++;
        }
    }

    /** A NO that may be said on a day: what streets and people look at. */
    static final class No {
        // By the places of their letters in Street.LETTERS; the word's is not set, as all words are asked at once.
        final int[] values = new int[6];
        int v = 0;
        int day = 0;
        int used = 0;
        int heard = 0;
        int rowToday = 0;
    }

    /** A person of the KIND that all others are under. */
    static class One {
        final int kind;
        final int number;
        final int v;
        final Trace trace;

        One(int kind, int number, int v, Trace trace) {
            this.kind = kind;
            this.number = number;
            this.v = v;
            this.trace = trace;
        }

        /** The words (as bits) by which a NO of such a one counts, on a day when one can count at all. */
        int wordsOf(No no) {
            return no.heard & ~no.used;
        }

        int shuns(int x) {
            trace.begins(10);
            return x + number;
        }

        int scoffs(int x) {
            trace.begins(11);
            return shuns(x) - v;
        }

        int tells(int x) {
            trace.begins(12);
            return scoffs(x) * 2;
        }
    }

    static class Kind extends One {
        Kind(int kind, int number, int v, Trace trace) {
            super(kind, number, v, trace);
        }

        int wordsOf(No no) {
            return no.day % 2 == 0 ? super.wordsOf(no) : 0;
        }

        int scoffs(int x) {
            trace.begins(20);
            return super.scoffs(x) ^ 6;
        }
    }

    static class Scorner extends One {
        Scorner(int kind, int number, int v, Trace trace) {
            super(kind, number, v, trace);
        }

        int wordsOf(No no) {
            return no.heard;
        }

        int shuns(int x) {
            trace.begins(30);
            return super.shuns(x * 3);
        }
    }

    static class Mute extends One {
        private static final int ITS_WORD = 3;

        Mute(int kind, int number, int v, Trace trace) {
            super(kind, number, v, trace);
        }

        int wordsOf(No no) {
            return no.heard & 1 << ITS_WORD;
        }

        int tells(int x) {
            trace.begins(40);
            return super.tells(x) + scoffs(1);
        }
    }

    static final class Shy extends Kind {
        Shy(int kind, int number, int v, Trace trace) {
            super(kind, number, v, trace);
        }

        int wordsOf(No no) {
            return super.wordsOf(no) & ~(1 << no.v % WORDS);
        }

        int shuns(int x) {
            trace.begins(50);
            return -super.shuns(x);
        }

        int scoffs(int x) {
            trace.begins(51);
            return super.scoffs(x + 1);
        }
    }

    static final class Loud extends Scorner {
        Loud(int kind, int number, int v, Trace trace) {
            super(kind, number, v, trace);
        }

        int wordsOf(No no) {
            return ALL_WORDS;
        }

        int tells(int x) {
            trace.begins(60);
            return super.tells(x - number);
        }
    }

    static final class Told extends Mute {
        Told(int kind, int number, int v, Trace trace) {
            super(kind, number, v, trace);
        }

        int wordsOf(No no) {
            return no.rowToday != 0 ? super.wordsOf(no) : 0;
        }

        int scoffs(int x) {
            trace.begins(70);
            return super.scoffs(x) + super.shuns(2);
        }

        int shuns(int x) {
            trace.begins(71);
            return super.shuns(x) ^ v;
        }
    }

    /** A text of who is loud or deaf to what when, read into steps that push what holds and join it. */
    static final class Street {
        static final int FLAWLESS = -1;
        static final String LETTERS = "pqkvwd";
        private static final String SIGNS = "<=>";
        static final int SAYER = 0, TO_WHOM = 1, KIND_OF_SAYER = 2, V_OF_SAYER = 3, WORD = 4, DAY = 5;
        private static final int NOT = -1, AND = -2, OR = -3, LETTER_STEP = 300, SIGN_STEP = 100;
        private static final int LOUD = 1, DEAF = -1, BEGIN = 0, NO_WORD = -2, NO_NUMBER = -1;

        int begin = 0;
        private int clauses = 0;
        private final int[] worth = new int[MOST_CLAUSES];
        private final int[] stepsEnd = new int[MOST_CLAUSES];
        private final int[] steps = new int[MOST_TEXT];
        private int stepCount = 0;
        private final int[] loudness = new int[WORDS];

        private final byte[] text = new byte[MOST_TEXT];
        private int size = 0;
        private int at = 0;

        /** Reads this street anew: the place where the text fails, or FLAWLESS. */
        int faultOf(byte[] bytes, int length) {
            size = Math.min(Math.min(bytes.length, length), MOST_TEXT);
            System.arraycopy(bytes, 0, text, 0, size);
            at = 0;
            clauses = 0;
            stepCount = 0;
            begin = 0;
            for (int i = 0; i < MOST_CLAUSES; i++) {
                if (i > 0 && !takes(';')) {
                    break;
                }
                if (!readsClause()) {
                    return at;
                }
            }
            return at < size ? at : FLAWLESS;
        }

        private boolean readsClause() {
            int word = readWord();
            int n = word == NO_WORD ? NO_NUMBER : readNumber();
            if (n == NO_NUMBER || clauses >= MOST_CLAUSES) {
                return false;
            }
            if (word == BEGIN) {
                begin = n;
            } else if (!takes(' ') || !readsEither(0)) {
                return false;
            }
            worth[clauses] = word * n;
            stepsEnd[clauses] = stepCount;
            clauses++;
            return true;
        }

        private int readWord() {
            if (takes('l')) {
                return takesAll("oud ") ? LOUD : NO_WORD;
            }
            if (takes('d')) {
                return takesAll("eaf ") ? DEAF : NO_WORD;
            }
            return takes('b') && takesAll("egin ") ? BEGIN : NO_WORD;
        }

        private boolean readsEither(int depth) {
            boolean reads = readsBoth(depth);
            for (int i = 0; i < MOST_TEXT && reads && takes('|'); i++) {
                reads = readsBoth(depth);
                addStep(OR);
            }
            return reads;
        }

        private boolean readsBoth(int depth) {
            boolean reads = readsSingle(depth);
            for (int i = 0; i < MOST_TEXT && reads && takes('&'); i++) {
                reads = readsSingle(depth);
                addStep(AND);
            }
            return reads;
        }

        /** depth: within how many ( and ! this stands. */
        private boolean readsSingle(int depth) {
            if (depth < MOST_NESTED && takes('!')) {
                boolean reads = readsSingle(depth + 1);
                addStep(NOT);
                return reads;
            }
            if (depth < MOST_NESTED && takes('(')) {
                return readsEither(depth + 1) && takes(')');
            }
            return readsTest();
        }

        private boolean readsTest() {
            int letter = takesOneOf(LETTERS);
            int sign = letter < 0 ? -1 : takesOneOf(SIGNS);
            int n = sign < 0 ? NO_NUMBER : readNumber();
            if (n == NO_NUMBER) {
                return false;
            }
            addStep(letter * LETTER_STEP + sign * SIGN_STEP + n);
            return true;
        }

        private int readNumber() {
            int n = NO_NUMBER;
            for (int i = 0; i < 2 && at < size && text[at] >= '0' && text[at] <= '9'; i++) {
                n = (n == NO_NUMBER ? 0 : n * 10) + text[at] - '0';
                at++;
            }
            return n;
        }

        private boolean takes(int sign) {
            if (at >= size || text[at] != sign) {
                return false;
            }
            at++;
            return true;
        }

        private boolean takesAll(String signs) {
            for (int i = 0; i < signs.length(); i++) {
                if (!takes(signs.charAt(i))) {
                    return false;
                }
            }
            return true;
        }

        private int takesOneOf(String signs) {
            int place = at < size ? signs.indexOf((char) text[at]) : -1;
            at += place < 0 ? 0 : 1;
            return place;
        }

        private void addStep(int step) {
            if (stepCount < MOST_TEXT) {
                steps[stepCount] = step;
                stepCount++;
            }
        }

        /** The words (as bits) that are heard here, were they said in such a NO. */
        int heardWords(No no) {
            for (int word = 0; word < WORDS; word++) {
                loudness[word] = 1;
            }
            for (int i = 0; i < clauses; i++) {
                int words = wordsHolding(i, no);
                for (int word = 0; word < WORDS; word++) {
                    loudness[word] += hasBit(words, word) ? worth[i] : 0;
                }
            }
            int heard = 0;
            for (int word = 0; word < WORDS; word++) {
                heard |= loudness[word] > 0 ? 1 << word : 0;
            }
            return heard;
        }

        /**
         * The words (as bits) with which a clause holds. The pile has four bits a level, and eleven levels at most:
         * two that wait for their right side within each of five depths, and the newest.
         */
        private int wordsHolding(int clause, No no) {
            long pile = 0;
            for (int i = clause == 0 ? 0 : stepsEnd[clause - 1]; i < stepsEnd[clause]; i++) {
                long top = pile & ALL_WORDS;
                switch (steps[i]) {
                    case NOT:
                        pile ^= ALL_WORDS;
                        break;
                    case AND:
                        pile = pile >> WORDS & (top | ~(long) ALL_WORDS);
                        break;
                    case OR:
                        pile = pile >> WORDS | top;
                        break;
                    default:
                        pile = pile << WORDS | wordsPassing(steps[i], no);
                        break;
                }
            }
            return (int) (pile & ALL_WORDS);
        }

        private static int wordsPassing(int step, No no) {
            int letter = step / LETTER_STEP;
            int sign = step % LETTER_STEP / SIGN_STEP;
            int n = step % SIGN_STEP;
            int words = 0;
            for (int word = 0; word < WORDS; word++) {
                int value = letter == WORD ? word : no.values[letter];
                boolean passes = sign == 0 ? value < n : sign == 1 ? value == n : value > n;
                words |= passes ? 1 << word : 0;
            }
            return words;
        }
    }

    /** All that the image keeps, and what is asked of it. */
    static final class Town {
        int people = 0;
        final One[] who = new One[MOST_PEOPLE];
        final int[] wed = new int[MOST_PEOPLE];
        final int[] rows = new int[MOST_PEOPLE * PARTS];
        final int[] tally = new int[MOST_PEOPLE * MOST_PEOPLE];
        final int[] used = new int[MOST_PEOPLE * MOST_PEOPLE];
        final int[] last = new int[MOST_PEOPLE * MOST_PEOPLE];
        int day = 0;
        Street held = null;
        final int[] said = new int[MOST_SAID * SAID_WIDTH];
        int saidRows = 0;
        final int[] plan = new int[MOST_PLAN * PLAN_WIDTH];
        int planRows = 0;
        final int[] book = new int[MOST_BOOK * BOOK_WIDTH];
        int bookRows = 0;
        private final No no = new No();

        static int pair(int one, int other) {
            return one * MOST_PEOPLE + other;
        }

        boolean has(int person) {
            return person >= 0 && person < people;
        }

        int firstDay() {
            return held == null ? 0 : held.begin;
        }

        /** The newcomer's number. */
        int welcomes(One newcomer) {
            if (people >= MOST_PEOPLE) {
                return FULL;
            }
            who[people] = newcomer;
            wed[people] = NIL;
            for (int part = 0; part < PARTS; part++) {
                rows[people * PARTS + part] = 0;
            }
            for (int other = 0; other < MOST_PEOPLE; other++) {
                forget(people, other);
                last[pair(people, other)] = NIL;
                last[pair(other, people)] = NIL;
            }
            people++;
            return people - 1;
        }

        void becomes(Town other) {
            people = other.people;
            for (int i = 0; i < MOST_PEOPLE; i++) {
                who[i] = other.who[i];
            }
            System.arraycopy(other.wed, 0, wed, 0, wed.length);
            System.arraycopy(other.rows, 0, rows, 0, rows.length);
            System.arraycopy(other.tally, 0, tally, 0, tally.length);
            System.arraycopy(other.used, 0, used, 0, used.length);
            System.arraycopy(other.last, 0, last, 0, last.length);
            day = other.day;
            held = other.held;
            System.arraycopy(other.said, 0, said, 0, said.length);
            saidRows = other.saidRows;
            System.arraycopy(other.plan, 0, plan, 0, plan.length);
            planRows = other.planRows;
            System.arraycopy(other.book, 0, book, 0, book.length);
            bookRows = other.bookRows;
        }

        private void forget(int one, int other) {
            tally[pair(one, other)] = 0;
            tally[pair(other, one)] = 0;
            used[pair(one, other)] = 0;
            used[pair(other, one)] = 0;
        }

        /** Makes the NO ready that may be said on a day, were v the v of who says it: whether it can count at all. */
        private boolean readies(int one, int other, int v, int onDay) {
            if (onDay < firstDay() || onDay == last[pair(one, other)]) {
                return false;
            }
            no.values[Street.SAYER] = one;
            no.values[Street.TO_WHOM] = other;
            no.values[Street.KIND_OF_SAYER] = who[one].kind;
            no.values[Street.V_OF_SAYER] = v;
            no.values[Street.DAY] = onDay % 10;
            no.v = v;
            no.day = onDay;
            no.used = used[pair(one, other)];
            no.rowToday = rows[one * PARTS + onDay % PARTS];
            no.heard = held == null ? ALL_WORDS : held.heardWords(no);
            return true;
        }

        /** The words (as bits) by which a NO counts on a day, were v the v of who says it. */
        int countingWords(int one, int other, int v, int onDay) {
            return readies(one, other, v, onDay) ? who[one].wordsOf(no) : 0;
        }

        /** A NO is said today: the tally then, or NIL if it does not count. */
        int hearsNo(int one, int other, int word) {
            if (!hasBit(countingWords(one, other, who[one].v, day), word)) {
                return NIL;
            }
            int there = pair(one, other);
            used[there] |= 1 << word;
            last[there] = day;
            if (tally[there] < 2) {
                tally[there]++;
            } else {
                forget(one, other);
                part(one, other);
            }
            if (tally[there] == 2 && tally[pair(other, one)] == 2 && wed[one] == NIL && wed[other] == NIL) {
                wed[one] = other;
                wed[other] = one;
            }
            return tally[there];
        }

        private void part(int one, int other) {
            if (wed[one] == other) {
                wed[one] = NIL;
                wed[other] = NIL;
            }
        }

        int twice(int one, int other) {
            int pair = pair(one, other);
            if (tally[pair] == 2) {
                return 0;
            }
            int firstWords = 0;
            for (int n = 0; n <= MOST_WAIT; n++) {
                if (readies(one, other, who[one].v, day + n)) {
                    int words = who[one].wordsOf(no);
                    if (tally[pair] == 1 ? words != 0 : secondCounts(one, firstWords)) {
                        return n;
                    }
                    firstWords |= words;
                }
            }
            return NIL;
        }

        /** Whether the NO made ready counts by some word, behind a first by one of the words given. */
        private boolean secondCounts(int one, int firstWords) {
            int usedBefore = no.used;
            for (int word = 0; word < WORDS; word++) {
                no.used = usedBefore | 1 << word;
                if (hasBit(firstWords, word) && who[one].wordsOf(no) != 0) {
                    return true;
                }
            }
            return false;
        }

        int awaited(int one, int other) {
            if (wed[one] != NIL || wed[other] != NIL) {
                return NIL;
            }
            int there = twice(one, other);
            int back = there == NIL ? NIL : twice(other, one);
            return back == NIL ? NIL : Math.max(there, back);
        }

        private boolean isNear(int one, int other) {
            int there = tally[pair(one, other)];
            int back = tally[pair(other, one)];
            return wed[one] == NIL && wed[other] == NIL && there + back == 3;
        }

        int nearPairs() {
            int near = 0;
            for (int i = 0; i < people; i++) {
                for (int j = i + 1; j < people; j++) {
                    near += isNear(i, j) ? 1 : 0;
                }
            }
            return near;
        }

        int firstNear() {
            for (int i = 0; i < people; i++) {
                for (int j = i + 1; j < people; j++) {
                    if (isNear(i, j)) {
                        return 10 * i + j;
                    }
                }
            }
            return NIL;
        }

        int wall() {
            int best = (1 << people) - 1;
            for (int set = best; set >= 0; set--) {
                if (isWall(set) && Integer.bitCount(set) <= Integer.bitCount(best)) {
                    best = set;
                }
            }
            return best;
        }

        private boolean isWall(int set) {
            for (int i = 0; i < people; i++) {
                for (int j = i + 1; j < people; j++) {
                    if (!hasBit(set, i) && !hasBit(set, j) && isNear(i, j)) {
                        return false;
                    }
                }
            }
            return true;
        }

        int talliesBy(int person) {
            int sum = 0;
            for (int other = 0; other < people; other++) {
                sum += tally[pair(person, other)];
            }
            return sum;
        }

        int talliesTo(int person) {
            int sum = 0;
            for (int other = 0; other < people; other++) {
                sum += tally[pair(other, person)];
            }
            return sum;
        }

        int tallies() {
            int sum = 0;
            for (int i = 0; i < people; i++) {
                sum += talliesBy(i);
            }
            return sum;
        }

        int wedOnes() {
            int ones = 0;
            for (int i = 0; i < people; i++) {
                ones += wed[i] != NIL ? 1 : 0;
            }
            return ones;
        }

        /** Whether a row of what was said is so, were v the v of who says it. */
        boolean isSo(int row, int v) {
            int at = row * SAID_WIDTH;
            int words = countingWords(said[at], said[at + 1], v, day + said[at + 3]);
            return hasBit(words, said[at + 2]) == (said[at + 4] == 1);
        }

        boolean couldSay(int person, int v) {
            for (int i = 0; i < saidRows; i++) {
                if (said[i * SAID_WIDTH] == person && !isSo(i, v)) {
                    return false;
                }
            }
            return true;
        }
    }
}
