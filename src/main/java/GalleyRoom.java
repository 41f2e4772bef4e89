import java.util.Arrays;

/** A composing room in which a paragraph is set in a measure; ../shared/DOC.md tells what each call answers. */
public final class GalleyRoom {
    public static final int NONE = -1;

    private static final int BAD_NUMBER = -1;
    private static final int NO_SUCH = -2;
    private static final int CANNOT_BE = -3;
    private static final int NO_ROOM = -5;
    private static final int BAD_TEXT = -6;

    private static final int MOST_WORDS = 12;
    private static final int MOST_LINES = 24;
    // PLACES (and ahead of the first) by how many LINES (and none).
    private static final int COLUMNS = 25;
    private static final int SLOTS = 625;
    private static final int MOST_WIDE = 20;
    private static final int MOST_KIND = 3;
    private static final int MOST_LAWS = 6;
    private static final int MOST_SEEN = 6;
    private static final int MOST_BYTES = 400;
    private static final int FED_BYTES = 20;
    private static final int MOST_UNDONE = 16;
    private static final int MOST_IMAGES = 2;
    private static final int LAST_PROOF = 999;
    private static final int MOST_SEED = 1000000;
    private static final int MOST_WEEKS = 60;
    private static final int MOST_FEW = 20;
    private static final int MOST_SLIPPING = 99;
    private static final long ALL_PARTS = 1000000000000L;

    private static final int PROOF = 0;
    private static final int SLIPS = 1;
    private static final int MOOD = 2;
    private static final int MEASURE = 3;
    private static final int[] LEAST_TERM = {0, 0, 0, 10};
    private static final int[] MOST_TERM = {999, 10, 9, 60};

    // What a LINE tells, in the order in which line() numbers it.
    private static final int TOLD_PLACE = 0;
    private static final int TOLD_WIDTH = 1;
    private static final int TOLD_PIECES = 2;
    private static final int TOLD_COSTS = 3;
    private static final int TOLD_PAYS = 4;
    private static final int TOLD_BARRED = 5;
    private static final int TOLD_FITS = 6;
    private static final int ALL_TOLD = 7;
    private static final int[] TOLD_BY_FACT = {TOLD_WIDTH, TOLD_COSTS, TOLD_PAYS, TOLD_PIECES};
    private static final int MOST_SEEN_NUMBER = 999;

    // What ORDERS do, numbered as undo() tells it.
    private static final int DO_END = 0;
    private static final int DO_SPLIT = 1;
    private static final int DO_SWELL = 2;
    private static final int DO_PASS = 3;

    private static final int LAW_COSTS = 0;
    private static final int LAW_PAYS = 1;
    private static final int LAW_BARS = 2;
    private static final int MOST_COSTS = 999;
    private static final int MOST_PAYS = 99;

    private static final int MOST_CLAUSES = 12;
    private static final int MOST_PARTS = 50;
    private static final int MOST_BRACKETS = 8;
    private static final int MOST_NUMBER = 1000;
    private static final int MOST_TIMES = 20;
    private static final long FAR = 1000000000L;

    // An instruction is one int: what to do, and in the low bits a number.
    private static final int LOW_BITS = 12;
    private static final int LOW_MASK = 4095;
    private static final int PUSH_NUMBER = 1;
    private static final int PUSH_FACT = 2;
    private static final int TURN_ROUND = 3;
    private static final int SKIP_IF_FALSE = 4;
    private static final int SKIP_IF_TRUE = 5;
    private static final int FINISH = 6;
    private static final int ADD = 7;
    private static final int TAKE_AWAY = 8;
    private static final int MULTIPLY = 9;
    private static final int DIVIDE = 10;
    private static final int REMAINDER = 11;
    private static final int LESS = 12;
    private static final int MORE = 13;
    private static final int SAME = 14;
    // Every TOKEN makes one instruction at most, and a CLAUSE three FINISHes more.
    private static final int MOST_CODE = 512;
    private static final int STACK = 64;

    // The facts that LAWS ask for.
    private static final int LAW_LINE = 0;
    private static final int LAW_PIECES = 1;
    private static final int LAW_SHORT = 2;
    private static final int LAW_HYPHEN = 3;
    private static final int LAW_LAST = 4;
    private static final int LAW_KIND = 5;
    private static final int LAW_MOOD = 6;
    private static final int LAW_PROOF = 7;
    private static final int LAW_FACTS = 8;

    // The facts that ORDERS ask for; those of WORDS stand in a row from WIDE_0 and from ENDS_0.
    private static final int ORDER_PROOF = 0;
    private static final int ORDER_DONE = 1;
    private static final int ORDER_LATEST = 2;
    private static final int ORDER_LINES = 3;
    private static final int ORDER_FIT = 4;
    private static final int ORDER_WIDE_0 = 5;
    private static final int ORDER_ENDS_0 = 17;
    private static final int ORDER_FACTS = 29;

    // What a TOKEN is: a NUMBER itself, or a sign from here on.
    private static final int SIGN_BYTE = 2000;
    private static final int SIGN_WORD = 3000;
    private static final int SIGN_UNKNOWN = 3999;
    private static final int SIGN_END = 4000;
    private static final int SORT_OTHER = 0;
    private static final int SORT_LETTER = 1;
    private static final int SORT_DIGIT = 2;

    // The words of both languages, numbered from SIGN_WORD on. Those that go together stand together, in the order of
    // LAW_COSTS, DO_END, LAW_LINE and ORDER_PROOF ("proof" is the last of the one and the first of the other).
    private static final String ALL_WORDS =
        "costs pays bars end split swell pass to times if or and not line pieces short hyphen last kind mood proof done latest lines fit wide ends ";
    private static final int SIGN_COSTS = 3000;
    private static final int SIGN_BARS = 3002;
    private static final int SIGN_DO_END = 3003;
    private static final int SIGN_DO_SWELL = 3005;
    private static final int SIGN_DO_PASS = 3006;
    private static final int SIGN_TO = 3007;
    private static final int SIGN_TIMES = 3008;
    private static final int SIGN_IF = 3009;
    private static final int SIGN_OR = 3010;
    private static final int SIGN_AND = 3011;
    private static final int SIGN_NOT = 3012;
    private static final int SIGN_LINE = 3013;
    private static final int SIGN_PROOF = 3020;
    private static final int SIGN_FIT = 3024;
    private static final int SIGN_WIDE = 3025;
    private static final int SIGN_ENDS = 3026;

    private final Desk desk = new Desk();
    private final Galley now = desk.galley;
    private final Galley paperGalley = new Galley();
    private final Galley weeksGalley = new Galley();
    private final Galley[] images = new Galley[MOST_IMAGES];
    private final boolean[] imageKept = new boolean[MOST_IMAGES];
    private final byte[] tape = new byte[MOST_BYTES];
    private final Reader reader = new Reader();
    private final Log log = desk.log;
    private final Sheet sheet = desk.sheet;
    private final Paper paper = new Paper();
    private final long[] slipped = new long[MOST_FEW];
    private final int[] refusals = new int[5];
    private int tapeBytes;
    private int turnedCount;
    private int stoppedClause = NONE;
    private int latestRefusal;

    public GalleyRoom() {
        for (int k = 0; k < MOST_IMAGES; k++) {
            images[k] = new Galley();
        }
    }

    public int word(int wide, int splits, int kind) {
        if (!canBeWord(wide, splits, kind)) {
            return refuse(BAD_NUMBER);
        }
        if (now.words >= MOST_WORDS) {
            return refuse(NO_ROOM);
        }
        now.addWord(wide, splits, kind);
        log.held = 0;
        return answer(now.words - 1);
    }

    public int of(int word, int what) {
        if (!now.has(word)) {
            return NONE;
        }
        switch (what) {
            case 0:
                return now.wide[word];
            case 1:
                return now.splits[word];
            case 2:
                return now.kind[word];
            case 3:
                return now.endsAfter(word) ? 1 : 0;
            case 4:
                return now.isSplit(word) ? 1 : 0;
            default:
                return NONE;
        }
    }

    public int line(int i, int what) {
        if (what < 0 || what >= ALL_TOLD) {
            return NONE;
        }
        sheet.readSetting(now);
        return i >= 0 && i < sheet.lines ? sheet.tellOf(what, i) : NONE;
    }

    public int all(int what) {
        sheet.readSetting(now);
        switch (what) {
            case 0:
                return sheet.together(TOLD_COSTS);
            case 1:
                return sheet.together(TOLD_PAYS);
            case 2:
                return sheet.together(TOLD_FITS);
            default:
                return NONE;
        }
    }

    public int terms(int what, int value) {
        if (what < 0 || what > MEASURE || value < LEAST_TERM[what] || value > MOST_TERM[what]) {
            return refuse(BAD_NUMBER);
        }
        int was = now.terms[what];
        now.terms[what] = value;
        log.held = 0;
        return answer(was);
    }

    public int feed(int a, int b, int c, int d, int e) {
        if (tapeBytes + FED_BYTES > MOST_BYTES) {
            return NONE;
        }
        putFour(a);
        putFour(b);
        putFour(c);
        putFour(d);
        putFour(e);
        return tapeBytes;
    }

    public int end(int n) {
        if (n < 0 || n > tapeBytes) {
            return NONE;
        }
        tapeBytes = n;
        return n;
    }

    public int row() {
        if (tapeBytes == 0) {
            return refuse(BAD_TEXT);
        }
        int came = 0;
        turnedCount = 0;
        for (int at = 0; at < tapeBytes; at += 3) {
            if (takeWordAt(at)) {
                came++;
            } else {
                turnedCount++;
            }
        }
        tapeBytes = 0;
        log.held = 0;
        return answer(came);
    }

    public int turned() {
        return turnedCount;
    }

    public int law() {
        if (now.laws >= MOST_LAWS) {
            tapeBytes = 0;
            return refuse(NO_ROOM);
        }
        reader.readText(tape, tapeBytes, false);
        tapeBytes = 0;
        if (reader.faultAt != NONE) {
            return refuse(BAD_TEXT);
        }
        now.law[now.laws] = reader.draft.trimmed();
        now.laws++;
        return answer(now.laws - 1);
    }

    public int orders() {
        stoppedClause = NONE;
        reader.readText(tape, tapeBytes, true);
        tapeBytes = 0;
        if (reader.faultAt != NONE) {
            return refuse(BAD_TEXT);
        }
        Text orders = reader.draft;
        desk.begin();
        for (int c = 0; c < orders.clauses && c < MOST_CLAUSES; c++) {
            for (int i = 0; i < orders.times[c] && i < MOST_TIMES; i++) {
                if (!desk.runOnce(orders, c)) {
                    desk.giveUp();
                    stoppedClause = c;
                    return refuse(CANNOT_BE);
                }
            }
        }
        return answer(desk.done);
    }

    public int fault() {
        return reader.faultAt;
    }

    public int stopped() {
        return stoppedClause;
    }

    public int force(int law) {
        if (!now.canForce(law)) {
            return refuse(NO_SUCH);
        }
        int was = now.force;
        now.force = law;
        return answer(was);
    }

    public int stop(int word) {
        int why = desk.attempt(DO_END, word, 0);
        return why != 0 ? refuse(why) : answer(now.endsAfter(word) ? 1 : 0);
    }

    public int split(int word) {
        int why = desk.attempt(DO_SPLIT, word, 0);
        return why != 0 ? refuse(why) : answer(now.isSplit(word) ? 1 : 0);
    }

    public int swell(int word, int wide) {
        int was = now.wideOf(word);
        int why = desk.attempt(DO_SWELL, word, wide);
        return why != 0 ? refuse(why) : answer(was);
    }

    public int pass() {
        int fitting = sheet.howManyFit(now);
        int why = desk.attempt(DO_PASS, 0, 0);
        return why != 0 ? refuse(why) : answer(fitting);
    }

    public int undo() {
        int verb = log.takeBack(now);
        return verb == NONE ? refuse(CANNOT_BE) : answer(verb);
    }

    public int best(int i) {
        layPaper(now, now.lawInForce());
        return i == NONE ? paper.bestCosts() : paper.bestPlace(i);
    }

    public int just(int k) {
        layPaper(now, now.lawInForce());
        return paper.leastOfJust(k);
    }

    public int fewest() {
        layPaper(now, now.lawInForce());
        for (int k = 0; k <= MOST_LINES; k++) {
            if (paper.canBeOf(k)) {
                return k;
            }
        }
        return NONE;
    }

    public int most() {
        layPaper(now, now.lawInForce());
        for (int k = MOST_LINES; k >= 0; k--) {
            if (paper.canBeOf(k)) {
                return k;
            }
        }
        return NONE;
    }

    public long ways() {
        layPaper(now, now.lawInForce());
        return paper.waysInAll();
    }

    public int richest() {
        layPaper(now, now.lawInForce());
        return paper.mostPaid();
    }

    public int narrow(int k) {
        if (k < 0 || k > MOST_LINES) {
            return NONE;
        }
        for (int measure = LEAST_TERM[MEASURE]; measure <= MOST_TERM[MEASURE]; measure++) {
            paper.layOut(now, now.lawInForce(), measure, true);
            if (paper.canBeOfAtMost(k)) {
                return measure;
            }
        }
        return NONE;
    }

    public int leaveOut(int what) {
        if (what < 0 || what > 1) {
            return NONE;
        }
        int left = NONE;
        int least = NONE;
        for (int w = 0; w < now.words; w++) {
            paperGalley.copyFrom(now);
            paperGalley.dropWord(w);
            layPaper(paperGalley, now.lawInForce());
            int costs = paper.bestCosts();
            if (costs != NONE && (left == NONE || costs < least)) {
                left = w;
                least = costs;
            }
        }
        return what == 0 ? left : least;
    }

    public int river() {
        sheet.readSetting(now);
        return sheet.longestRiver(now);
    }

    public int seen(int fact, int n) {
        if (fact < 0 || fact >= TOLD_BY_FACT.length || n < 0 || n > MOST_SEEN_NUMBER) {
            return refuse(BAD_NUMBER);
        }
        if (now.seen >= MOST_SEEN) {
            return refuse(NO_ROOM);
        }
        now.seenFact[now.seen] = fact;
        now.seenNumber[now.seen] = n;
        now.seen++;
        return answer(now.seen);
    }

    public int forget() {
        int was = now.seen;
        now.seen = 0;
        return was;
    }

    public int canBe() {
        sheet.readSetting(now);
        return sheet.linesAsSeen(now);
    }

    public int look(int what) {
        if (what < 0 || what > 1) {
            return NONE;
        }
        sheet.readSetting(now);
        int lines = sheet.linesAsSeen(now);
        if (lines == 0) {
            return NONE;
        }
        int fact = 0;
        int least = sheet.mostAlike(lines, 0);
        for (int f = 1; f < TOLD_BY_FACT.length; f++) {
            int alike = sheet.mostAlike(lines, f);
            if (alike < least) {
                fact = f;
                least = alike;
            }
        }
        return what == 0 ? fact : least;
    }

    public long few(int k, int n) {
        if (k < 1 || k > MOST_FEW || n < 0 || n > MOST_SLIPPING) {
            return NONE;
        }
        Arrays.fill(slipped, 0);
        slipped[0] = ALL_PARTS;
        int slips = now.terms[SLIPS];
        for (int i = 0; i < n; i++) {
            // From the top down, so that each part is still that of the word ahead.
            for (int j = k - 1; j >= 0; j--) {
                long more = j > 0 ? slipped[j - 1] * slips / 10 : 0;
                slipped[j] = slipped[j] * (10 - slips) / 10 + more;
            }
        }
        long chance = 0;
        for (int j = 0; j < k; j++) {
            chance += slipped[j];
        }
        return chance;
    }

    public int compare(int law) {
        if (!now.canForce(law)) {
            return NONE;
        }
        layPaper(now, now.lawOf(law));
        return paper.bestCosts();
    }

    public int weeks(int seed, int n) {
        if (seed < 0 || seed > MOST_SEED || n < 1 || n > MOST_WEEKS) {
            return refuse(BAD_NUMBER);
        }
        if (now.words == 0) {
            return refuse(CANNOT_BE);
        }
        weeksGalley.copyFrom(now);
        int s = seed;
        int fitted = 0;
        for (int i = 0; i < n && weeksGalley.terms[PROOF] < LAST_PROOF; i++) {
            s = nextDraw(s);
            int word = s % Math.max(1, weeksGalley.words);
            s = nextDraw(s);
            int wide = s % MOST_WIDE + 1;
            s = nextDraw(s);
            weeksGalley.carryOutIfItCanBe(Math.max(DO_END, s % 4 - 1), word, wide);
            fitted += sheet.howManyFit(weeksGalley);
            weeksGalley.terms[PROOF]++;
        }
        return answer(fitted);
    }

    public int drawn(int word, int what) {
        if (!weeksGalley.has(word)) {
            return NONE;
        }
        switch (what) {
            case 0:
                return weeksGalley.wide[word];
            case 1:
                return weeksGalley.endsAfter(word) ? 1 : 0;
            case 2:
                return weeksGalley.isSplit(word) ? 1 : 0;
            default:
                return NONE;
        }
    }

    public int image(int k) {
        if (k < 0 || k >= MOST_IMAGES) {
            return refuse(BAD_NUMBER);
        }
        images[k].copyFrom(now);
        imageKept[k] = true;
        return answer(0);
    }

    public int back(int k) {
        if (k < 0 || k >= MOST_IMAGES) {
            return refuse(BAD_NUMBER);
        }
        if (!imageKept[k]) {
            return refuse(NO_SUCH);
        }
        now.copyFrom(images[k]);
        log.held = 0;
        return answer(0);
    }

    public int count(int what) {
        if (what >= 7 && what <= 11) {
            return refusals[what - 7];
        }
        if (what >= 13 && what <= 16) {
            return now.terms[what - 13];
        }
        switch (what) {
            case 0:
                return now.words;
            case 1:
                sheet.readSetting(now);
                return sheet.lines;
            case 2:
                return sheet.howManyFit(now);
            case 3:
                return now.seen;
            case 4:
                return now.laws;
            case 5:
                return log.held;
            case 6:
                return tapeBytes;
            case 12:
                return now.force;
            default:
                return NONE;
        }
    }

    public int status() {
        return latestRefusal;
    }

    private int answer(int value) {
        latestRefusal = 0;
        return value;
    }

    private int refuse(int why) {
        latestRefusal = why;
        // There is no -4: -5 and -6 stand one lower than their number tells.
        int i = why > NO_ROOM ? -why - 1 : -why - 2;
        if (i >= 0 && i < refusals.length) {
            refusals[i]++;
        }
        return why;
    }

    private static boolean canBeWord(int wide, int splits, int kind) {
        return wide >= 1 && wide <= MOST_WIDE && splits >= 0 && splits < wide && kind >= 0 && kind <= MOST_KIND;
    }

    private void putFour(int number) {
        for (int shift = 24; shift >= 0 && tapeBytes < MOST_BYTES; shift -= 8) {
            tape[tapeBytes] = (byte) (number >> shift);
            tapeBytes++;
        }
    }

    private boolean takeWordAt(int at) {
        if (at < 0 || at + 3 > tapeBytes || at + 3 > MOST_BYTES || now.words >= MOST_WORDS) {
            return false;
        }
        int wide = tape[at] & 255;
        int splits = tape[at + 1] & 255;
        int kind = tape[at + 2] & 255;
        if (!canBeWord(wide, splits, kind)) {
            return false;
        }
        now.addWord(wide, splits, kind);
        return true;
    }

    private void layPaper(Galley galley, Text law) {
        paper.layOut(galley, law, galley.terms[MEASURE], false);
    }

    private static int nextDraw(int s) {
        return (s * 1103 + 12345) % 1000003;
    }

    private static int clamp(long value, int most) {
        return (int) Math.max(0L, Math.min(value, (long) most));
    }

    /** All that an IMAGE keeps: WORDS, the SETTING, TERMS, what was SEEN, LAWS. */
    private static final class Galley {
        final int[] wide = new int[MOST_WORDS];
        final int[] splits = new int[MOST_WORDS];
        final int[] kind = new int[MOST_WORDS];
        final int[] terms = {0, 1, 0, 30};
        final int[] seenFact = new int[MOST_SEEN];
        final int[] seenNumber = new int[MOST_SEEN];
        final Text[] law = new Text[MOST_LAWS];
        int words;
        // The last WORD's bit is never set, so that nothing is to be cleared when another comes behind it.
        int endBits;
        int splitBits;
        int seen;
        int laws;
        int force = NONE;

        void copyFrom(Galley other) {
            System.arraycopy(other.wide, 0, wide, 0, MOST_WORDS);
            System.arraycopy(other.splits, 0, splits, 0, MOST_WORDS);
            System.arraycopy(other.kind, 0, kind, 0, MOST_WORDS);
            System.arraycopy(other.terms, 0, terms, 0, MEASURE + 1);
            System.arraycopy(other.seenFact, 0, seenFact, 0, MOST_SEEN);
            System.arraycopy(other.seenNumber, 0, seenNumber, 0, MOST_SEEN);
            // A LAW never changes once it is read: its Text may be shared.
            for (int i = 0; i < MOST_LAWS; i++) {
                law[i] = other.law[i];
            }
            words = other.words;
            endBits = other.endBits;
            splitBits = other.splitBits;
            seen = other.seen;
            laws = other.laws;
            force = other.force;
        }

        boolean has(int w) {
            return w >= 0 && w < words && w < MOST_WORDS;
        }

        int wideOf(int w) {
            return has(w) ? wide[w] : NONE;
        }

        boolean canBeSplit(int w) {
            return has(w) && splits[w] > 0;
        }

        boolean isSplit(int w) {
            return has(w) && (splitBits >> w & 1) == 1;
        }

        boolean endsAfter(int w) {
            return has(w) && (w == words - 1 || (endBits >> w & 1) == 1);
        }

        boolean endsAt(int place) {
            return place % 2 == 0 ? isSplit(place / 2) : endsAfter(place / 2);
        }

        boolean canEndAt(int place) {
            return place % 2 == 0 ? canBeSplit(place / 2) : has(place / 2);
        }

        /** How WIDE the piece of a WORD is in the LINE from one PLACE to another. */
        int pieceOf(int w, int from, int to) {
            if (!has(w)) {
                return 0;
            }
            if (to == 2 * w) {
                return splits[w];
            }
            return from == 2 * w ? wide[w] - splits[w] : wide[w];
        }

        void addWord(int itsWide, int itsSplits, int itsKind) {
            if (words >= 0 && words < MOST_WORDS) {
                wide[words] = itsWide;
                splits[words] = itsSplits;
                kind[words] = itsKind;
                words++;
            }
        }

        /** Only for paper: the SETTING is not moved up. */
        void dropWord(int w) {
            if (!has(w)) {
                return;
            }
            for (int i = w; i + 1 < words && i + 1 < MOST_WORDS; i++) {
                wide[i] = wide[i + 1];
                splits[i] = splits[i + 1];
                kind[i] = kind[i + 1];
            }
            words--;
        }

        boolean canForce(int i) {
            return i >= NONE && i < laws;
        }

        Text lawOf(int i) {
            return i >= 0 && i < laws && i < MOST_LAWS ? law[i] : null;
        }

        Text lawInForce() {
            return lawOf(force);
        }

        /** By what it is REFUSED; 0 if it can be. */
        int whyNot(int verb, int w, int toWide) {
            if (verb == DO_PASS) {
                return terms[PROOF] >= LAST_PROOF ? CANNOT_BE : 0;
            }
            if (verb == DO_SWELL && (toWide < 1 || toWide > MOST_WIDE)) {
                return BAD_NUMBER;
            }
            if (!has(w)) {
                return NO_SUCH;
            }
            if (verb == DO_END) {
                return w == words - 1 ? CANNOT_BE : 0;
            }
            if (verb == DO_SPLIT) {
                return splits[w] == 0 ? CANNOT_BE : 0;
            }
            return toWide == wide[w] || toWide <= splits[w] ? CANNOT_BE : 0;
        }

        void carryOutIfItCanBe(int verb, int w, int toWide) {
            if (whyNot(verb, w, toWide) != 0) {
                return;
            }
            if (verb == DO_END) {
                endBits ^= 1 << w;
            } else if (verb == DO_SPLIT) {
                splitBits ^= 1 << w;
            } else if (verb == DO_SWELL) {
                wide[w] = toWide;
            } else {
                terms[PROOF]++;
            }
        }
    }

    /** What can be undone, the latest last. */
    private static final class Log {
        final int[] verb = new int[MOST_UNDONE];
        final int[] word = new int[MOST_UNDONE];
        final int[] wasWide = new int[MOST_UNDONE];
        int held;

        void copyFrom(Log other) {
            System.arraycopy(other.verb, 0, verb, 0, MOST_UNDONE);
            System.arraycopy(other.word, 0, word, 0, MOST_UNDONE);
            System.arraycopy(other.wasWide, 0, wasWide, 0, MOST_UNDONE);
            held = other.held;
        }

        void note(int itsVerb, int itsWord, int itsWide) {
            if (held >= MOST_UNDONE) {
                dropOldest();
            }
            if (held >= 0 && held < MOST_UNDONE) {
                verb[held] = itsVerb;
                word[held] = itsWord;
                wasWide[held] = itsWide;
                held++;
            }
        }

        private void dropOldest() {
            System.arraycopy(verb, 1, verb, 0, MOST_UNDONE - 1);
            System.arraycopy(word, 1, word, 0, MOST_UNDONE - 1);
            System.arraycopy(wasWide, 1, wasWide, 0, MOST_UNDONE - 1);
            held = MOST_UNDONE - 1;
        }

        /** What was undone; NONE if there was nothing. */
        int takeBack(Galley galley) {
            if (held <= 0 || held > MOST_UNDONE) {
                return NONE;
            }
            held--;
            if (verb[held] == DO_PASS) {
                galley.terms[PROOF]--;
            } else {
                // To END, to SPLIT undo themselves; a WORD swells back to what it was.
                galley.carryOutIfItCanBe(verb[held], word[held], wasWide[held]);
            }
            return verb[held];
        }
    }

    /** A TEXT that was read: of each CLAUSE where its SUMS and its TEST begin in the code (NONE: it has none). */
    private static final class Text {
        final int[] verb = new int[MOST_CLAUSES];
        final int[] times = new int[MOST_CLAUSES];
        final int[] firstSum = new int[MOST_CLAUSES];
        final int[] secondSum = new int[MOST_CLAUSES];
        final int[] test = new int[MOST_CLAUSES];
        final int[] code;
        int clauses;
        int size;
        boolean asksLine;

        Text(int room) {
            code = new int[Math.max(room, 0)];
        }

        Text trimmed() {
            Text kept = new Text(size);
            System.arraycopy(code, 0, kept.code, 0, kept.code.length);
            System.arraycopy(verb, 0, kept.verb, 0, MOST_CLAUSES);
            System.arraycopy(times, 0, kept.times, 0, MOST_CLAUSES);
            System.arraycopy(firstSum, 0, kept.firstSum, 0, MOST_CLAUSES);
            System.arraycopy(secondSum, 0, kept.secondSum, 0, MOST_CLAUSES);
            System.arraycopy(test, 0, kept.test, 0, MOST_CLAUSES);
            kept.clauses = clauses;
            kept.size = size;
            kept.asksLine = asksLine;
            return kept;
        }

        void clear() {
            clauses = 0;
            size = 0;
            asksLine = false;
        }

        void emit(int what, int number) {
            if (size >= 0 && size < code.length) {
                code[size] = what << LOW_BITS | number & LOW_MASK;
                size++;
            }
        }

        /** The skip at a place leads behind all that stands now. */
        void aim(int place) {
            if (place >= 0 && place < code.length) {
                code[place] = code[place] & ~LOW_MASK | size & LOW_MASK;
            }
        }
    }

    /** Reads a TEXT of either language: cuts it into TOKENS, then takes them till a TOKEN can't go on. */
    private static final class Reader {
        final Text draft = new Text(MOST_CODE);
        // Of each TOKEN what it is and its place; the end is one more.
        private final int[] signs = new int[MOST_BYTES + 1];
        private final int[] places = new int[MOST_BYTES + 1];
        private int at;
        private int parts;
        private boolean asOrders;
        int faultAt = NONE;

        void readText(byte[] bytes, int length, boolean orders) {
            asOrders = orders;
            at = 0;
            parts = 0;
            faultAt = NONE;
            draft.clear();
            cut(bytes, Math.max(0, Math.min(length, bytes.length)));
            for (int c = 0; c <= MOST_CLAUSES; c++) {
                if (!readClause(c) || sign() == SIGN_END) {
                    return;
                }
                if (!takeOrFail(SIGN_BYTE + ';')) {
                    return;
                }
            }
        }

        private void cut(byte[] bytes, int length) {
            int tokens = 0;
            int from = 0;
            while (from < length && tokens < MOST_BYTES) {
                int to = from + 1;
                int sort = sortOf(bytes[from]);
                while (to < length && sort != SORT_OTHER && sortOf(bytes[to]) == sort) {
                    to++;
                }
                if (bytes[from] != ' ') {
                    places[tokens] = from;
                    signs[tokens] = sort == SORT_LETTER ? wordOf(bytes, from, to)
                        : sort == SORT_DIGIT ? numberOf(bytes, from, to) : SIGN_BYTE + (bytes[from] & 255);
                    tokens++;
                }
                from = to;
            }
            places[tokens] = length;
            signs[tokens] = SIGN_END;
        }

        private static int sortOf(byte sign) {
            if (sign >= 'a' && sign <= 'z') {
                return SORT_LETTER;
            }
            return sign >= '0' && sign <= '9' ? SORT_DIGIT : SORT_OTHER;
        }

        private static int wordOf(byte[] bytes, int from, int to) {
            int word = SIGN_WORD;
            int next = from;
            boolean alike = true;
            for (int i = 0; i < ALL_WORDS.length(); i++) {
                char sign = ALL_WORDS.charAt(i);
                if (sign != ' ') {
                    alike = alike && next < to && next < bytes.length && bytes[next] == sign;
                    next++;
                } else if (alike && next == to) {
                    return word;
                } else {
                    word++;
                    next = from;
                    alike = true;
                }
            }
            return SIGN_UNKNOWN;
        }

        /** One that is too high stays so, however long it is. */
        private static int numberOf(byte[] bytes, int from, int to) {
            int value = 0;
            for (int i = from; i < to && i < bytes.length; i++) {
                value = Math.min(value * 10 + bytes[i] - '0', MOST_NUMBER + 1);
            }
            return value;
        }

        private int sign() {
            return at >= 0 && at < signs.length ? signs[at] : SIGN_END;
        }

        private boolean failHere() {
            faultAt = at >= 0 && at < places.length ? places[at] : 0;
            return false;
        }

        private boolean take(int wanted) {
            if (sign() != wanted) {
                return false;
            }
            at++;
            return true;
        }

        private boolean takeOrFail(int wanted) {
            return take(wanted) || failHere();
        }

        /** The number that stands here if it is of least .. most; else NONE, and a FAULT. */
        private int takeFrom(int least, int most) {
            int value = sign();
            if (value < least || value > most) {
                failHere();
                return NONE;
            }
            at++;
            return value;
        }

        private boolean readClause(int c) {
            if (c < 0 || c >= MOST_CLAUSES) {
                return failHere();
            }
            draft.times[c] = 1;
            draft.firstSum[c] = NONE;
            draft.secondSum[c] = NONE;
            draft.test[c] = NONE;
            boolean good = asOrders ? readOrder(c) : readRule(c);
            if (good && take(SIGN_IF)) {
                draft.test[c] = draft.size;
                good = readTest(0);
                draft.emit(FINISH, 0);
            }
            draft.clauses = c + 1;
            return good;
        }

        private boolean readRule(int c) {
            int verb = takeFrom(SIGN_COSTS, SIGN_BARS);
            if (verb == NONE) {
                return false;
            }
            draft.verb[c] = verb - SIGN_COSTS;
            if (verb == SIGN_BARS) {
                return true;
            }
            draft.firstSum[c] = draft.size;
            boolean good = readSum(0);
            draft.emit(FINISH, 0);
            return good;
        }

        private boolean readOrder(int c) {
            int verb = takeFrom(SIGN_DO_END, SIGN_DO_PASS);
            boolean good = verb != NONE;
            draft.verb[c] = verb - SIGN_DO_END;
            if (good && verb != SIGN_DO_PASS) {
                draft.firstSum[c] = draft.size;
                good = readSum(0);
                draft.emit(FINISH, 0);
            }
            if (good && verb == SIGN_DO_SWELL) {
                good = takeOrFail(SIGN_TO);
                draft.secondSum[c] = draft.size;
                good = good && readSum(0);
                draft.emit(FINISH, 0);
            }
            if (good && take(SIGN_TIMES)) {
                draft.times[c] = takeFrom(1, MOST_TIMES);
                good = draft.times[c] != NONE;
            }
            return good;
        }

        // The depth is how many brackets are open: the document's limit keeps it low.
        private boolean readTest(int depth) {
            boolean good = readBoth(depth);
            for (int i = 0; i < MOST_BYTES && good && take(SIGN_OR); i++) {
                int skip = draft.size;
                draft.emit(SKIP_IF_TRUE, 0);
                good = readBoth(depth);
                draft.aim(skip);
            }
            return good;
        }

        private boolean readBoth(int depth) {
            boolean good = readPlain(depth);
            for (int i = 0; i < MOST_BYTES && good && take(SIGN_AND); i++) {
                int skip = draft.size;
                draft.emit(SKIP_IF_FALSE, 0);
                good = readPlain(depth);
                draft.aim(skip);
            }
            return good;
        }

        private boolean readPlain(int depth) {
            boolean turnRound = false;
            // A loop, not a call: a TEXT has room for a hundred of them.
            for (int i = 0; i < MOST_BYTES && take(SIGN_NOT); i++) {
                turnRound = !turnRound;
            }
            boolean good = sign() == SIGN_BYTE + '(' ? readBracketed(depth) : readComparison(depth);
            if (turnRound) {
                draft.emit(TURN_ROUND, 0);
            }
            return good;
        }

        private boolean readBracketed(int depth) {
            if (depth >= MOST_BRACKETS) {
                return failHere();
            }
            if (take(SIGN_BYTE + '(')) {
                return readTest(depth + 1) && takeOrFail(SIGN_BYTE + ')');
            }
            return takeOrFail(SIGN_BYTE + '[') && readSum(depth + 1) && takeOrFail(SIGN_BYTE + ']');
        }

        private boolean readComparison(int depth) {
            if (!readSum(depth)) {
                return false;
            }
            int how = instructionOf(sign());
            if (how < LESS) {
                return failHere();
            }
            at++;
            boolean good = readSum(depth);
            draft.emit(how, 0);
            return good;
        }

        private boolean readSum(int depth) {
            boolean good = readTerm(depth);
            for (int i = 0; i < MOST_BYTES && good; i++) {
                int how = instructionOf(sign());
                if (how != ADD && how != TAKE_AWAY) {
                    return true;
                }
                at++;
                good = readTerm(depth);
                draft.emit(how, 0);
            }
            return good;
        }

        private boolean readTerm(int depth) {
            boolean good = readPart(depth);
            for (int i = 0; i < MOST_BYTES && good; i++) {
                int how = instructionOf(sign());
                if (how < MULTIPLY || how > REMAINDER) {
                    return true;
                }
                at++;
                good = readPart(depth);
                draft.emit(how, 0);
            }
            return good;
        }

        /** What an instruction's sign asks for; NONE for other TOKENS. */
        private static int instructionOf(int sign) {
            switch (sign) {
                case SIGN_BYTE + '+':
                    return ADD;
                case SIGN_BYTE + '-':
                    return TAKE_AWAY;
                case SIGN_BYTE + '*':
                    return MULTIPLY;
                case SIGN_BYTE + '/':
                    return DIVIDE;
                case SIGN_BYTE + '%':
                    return REMAINDER;
                case SIGN_BYTE + '<':
                    return LESS;
                case SIGN_BYTE + '>':
                    return MORE;
                case SIGN_BYTE + '=':
                    return SAME;
                default:
                    return NONE;
            }
        }

        private boolean readPart(int depth) {
            if (sign() == SIGN_BYTE + '[') {
                return readBracketed(depth);
            }
            if (parts >= MOST_PARTS) {
                return failHere();
            }
            parts++;
            if (sign() <= MOST_NUMBER) {
                draft.emit(PUSH_NUMBER, sign());
                at++;
                return true;
            }
            int fact = asOrders ? takeOrderFact() : takeLawFact();
            draft.emit(PUSH_FACT, fact);
            return fact != NONE;
        }

        private int takeLawFact() {
            int fact = takeFrom(SIGN_LINE, SIGN_PROOF);
            draft.asksLine = draft.asksLine || fact == SIGN_LINE;
            return fact == NONE ? NONE : fact - SIGN_LINE;
        }

        private int takeOrderFact() {
            if (sign() == SIGN_WIDE || sign() == SIGN_ENDS) {
                int first = sign() == SIGN_WIDE ? ORDER_WIDE_0 : ORDER_ENDS_0;
                at++;
                int w = takeFrom(0, MOST_WORDS - 1);
                return w == NONE ? NONE : first + w;
            }
            int fact = takeFrom(SIGN_PROOF, SIGN_FIT);
            return fact == NONE ? NONE : fact - SIGN_PROOF;
        }
    }

    /** Works out SUMS and TESTS; one of them that is BROKEN is worth 0. */
    private static final class Machine {
        final long[] stack = new long[STACK];
        boolean broken;

        long valueOf(Text text, int start, int[] facts) {
            int[] code = text.code;
            int held = 0;
            int at = start;
            broken = false;
            // Skips lead forward alone, so no instruction comes twice.
            for (int steps = 0; steps < code.length && at >= 0 && at < code.length; steps++) {
                int what = code[at] >> LOW_BITS;
                int number = code[at] & LOW_MASK;
                at++;
                if (what == PUSH_NUMBER || what == PUSH_FACT) {
                    if (held >= STACK || what == PUSH_FACT && number >= facts.length) {
                        break;
                    }
                    stack[held] = what == PUSH_NUMBER ? number : facts[number];
                    held++;
                    continue;
                }
                if (held < 1) {
                    break;
                }
                long top = stack[held - 1];
                if (what == FINISH) {
                    return top;
                } else if (what == TURN_ROUND) {
                    stack[held - 1] = 1 - top;
                } else if (what == SKIP_IF_FALSE && top == 0 || what == SKIP_IF_TRUE && top != 0) {
                    at = number;
                } else if (what == SKIP_IF_FALSE || what == SKIP_IF_TRUE) {
                    held--;
                } else if (held < 2) {
                    break;
                } else {
                    held--;
                    stack[held - 1] = combine(what, stack[held - 1], top);
                    if (broken) {
                        return 0;
                    }
                }
            }
            broken = true;
            return 0;
        }

        private long combine(int what, long a, long b) {
            long value = 0;
            switch (what) {
                case ADD:
                    value = a + b;
                    break;
                case TAKE_AWAY:
                    value = a - b;
                    break;
                case MULTIPLY:
                    value = a * b;
                    break;
                case DIVIDE:
                    broken = b == 0;
                    value = b == 0 ? 0 : a / b;
                    break;
                case REMAINDER:
                    broken = b == 0;
                    value = b == 0 ? 0 : a % b;
                    break;
                case LESS:
                    return a < b ? 1 : 0;
                case MORE:
                    return a > b ? 1 : 0;
                default:
                    return a == b ? 1 : 0;
            }
            broken = broken || value > FAR || value < -FAR;
            return value;
        }
    }

    /** A LINE from one PLACE to another, measured and then judged by a LAW. */
    private static final class Line {
        private final int[] facts = new int[LAW_FACTS];
        private final Machine machine = new Machine();
        int to;
        int width;
        int pieces;
        int costs;
        int pays;
        boolean barred;
        boolean fits;

        void measureUp(Galley galley, int from, int itsEnd) {
            to = itsEnd;
            // A hyphen, if a WORD is SPLIT at its end.
            width = to % 2 == 0 ? 1 : 0;
            pieces = 0;
            for (int w = (from + 1) / 2; w <= to / 2; w++) {
                width += galley.pieceOf(w, from, to) + (pieces > 0 ? 1 : 0);
                pieces++;
            }
        }

        void judge(Galley galley, Text law, int measure, int number, boolean barsAlone) {
            gatherFacts(galley, measure, number);
            costs = facts[LAW_LAST] == 1 ? 0 : Math.max(0, facts[LAW_SHORT]);
            pays = pieces;
            barred = false;
            int clauses = law == null ? 0 : Math.min(law.clauses, MOST_CLAUSES);
            for (int c = 0; c < clauses; c++) {
                if (barsAlone && law.verb[c] != LAW_BARS) {
                    continue;
                }
                if (law.test[c] != NONE && machine.valueOf(law, law.test[c], facts) == 0) {
                    continue;
                }
                if (law.verb[c] == LAW_BARS) {
                    barred = true;
                    continue;
                }
                long sum = machine.valueOf(law, law.firstSum[c], facts);
                if (machine.broken) {
                    continue;
                }
                if (law.verb[c] == LAW_COSTS) {
                    costs = clamp(sum, MOST_COSTS);
                } else {
                    pays = clamp(sum, MOST_PAYS);
                }
            }
            fits = width <= measure && !barred;
        }

        private void gatherFacts(Galley galley, int measure, int number) {
            int w = to / 2;
            facts[LAW_LINE] = number;
            facts[LAW_PIECES] = pieces;
            facts[LAW_SHORT] = measure - width;
            facts[LAW_HYPHEN] = to % 2 == 0 ? 1 : 0;
            facts[LAW_LAST] = to == 2 * galley.words - 1 ? 1 : 0;
            facts[LAW_KIND] = galley.has(w) ? galley.kind[w] : 0;
            facts[LAW_PROOF] = galley.terms[PROOF];
            facts[LAW_MOOD] = galley.terms[MOOD];
        }
    }

    /** What all LINES of a SETTING tell. */
    private static final class Sheet {
        private final int[][] told = new int[ALL_TOLD][MOST_LINES];
        // By where a space is AT: the longest RIVER that comes down to it; no LINE's last space is beyond 230.
        private int[] above = new int[256];
        private int[] below = new int[256];
        private final Line line = new Line();
        int lines;

        void readSetting(Galley galley) {
            int from = NONE;
            lines = 0;
            for (int place = 0; place < 2 * galley.words && lines < MOST_LINES; place++) {
                if (galley.endsAt(place)) {
                    line.measureUp(galley, from, place);
                    line.judge(galley, galley.lawInForce(), galley.terms[MEASURE], lines, false);
                    writeDown(lines);
                    lines++;
                    from = place;
                }
            }
        }

        private void writeDown(int i) {
            if (i < 0 || i >= MOST_LINES) {
                return;
            }
            told[TOLD_PLACE][i] = line.to;
            told[TOLD_WIDTH][i] = line.width;
            told[TOLD_PIECES][i] = line.pieces;
            told[TOLD_COSTS][i] = line.costs;
            told[TOLD_PAYS][i] = line.pays;
            told[TOLD_BARRED][i] = line.barred ? 1 : 0;
            told[TOLD_FITS][i] = line.fits ? 1 : 0;
        }

        int tellOf(int what, int i) {
            return what >= 0 && what < ALL_TOLD && i >= 0 && i < lines && i < MOST_LINES ? told[what][i] : NONE;
        }

        int together(int what) {
            int sum = 0;
            for (int i = 0; i < lines; i++) {
                sum += tellOf(what, i);
            }
            return sum;
        }

        int howManyFit(Galley galley) {
            readSetting(galley);
            return together(TOLD_FITS);
        }

        int linesAsSeen(Galley galley) {
            int bits = 0;
            for (int i = 0; i < lines; i++) {
                if (isAsSeen(galley, i)) {
                    bits |= 1 << i;
                }
            }
            return bits;
        }

        private boolean isAsSeen(Galley galley, int i) {
            for (int k = 0; k < galley.seen && k < MOST_SEEN; k++) {
                if (tellFact(galley.seenFact[k], i) != galley.seenNumber[k]) {
                    return false;
                }
            }
            return true;
        }

        private int tellFact(int fact, int i) {
            return fact >= 0 && fact < TOLD_BY_FACT.length ? tellOf(TOLD_BY_FACT[fact], i) : NONE;
        }

        /** Of LINES told as bits, the most of which a FACT is alike. */
        int mostAlike(int bits, int fact) {
            int most = 0;
            for (int i = 0; i < lines; i++) {
                int alike = 0;
                for (int k = 0; k < lines; k++) {
                    if ((bits >> k & 1) == 1 && tellFact(fact, k) == tellFact(fact, i)) {
                        alike++;
                    }
                }
                if ((bits >> i & 1) == 1) {
                    most = Math.max(most, alike);
                }
            }
            return most;
        }

        int longestRiver(Galley galley) {
            int longest = 0;
            int from = NONE;
            Arrays.fill(above, 0);
            for (int i = 0; i < lines; i++) {
                int to = tellOf(TOLD_PLACE, i);
                longest = Math.max(longest, flowThrough(galley, from, to));
                int[] spare = above;
                above = below;
                below = spare;
                from = to;
            }
            return longest;
        }

        /** Fills the row below from that above: the longest RIVER that ends in this LINE. */
        private int flowThrough(Galley galley, int from, int to) {
            int longest = 0;
            int at = 0;
            Arrays.fill(below, 0);
            for (int w = (from + 1) / 2; w < to / 2; w++) {
                at += galley.pieceOf(w, from, to);
                if (at >= 1 && at + 1 < above.length && at < below.length) {
                    below[at] = 1 + Math.max(above[at], Math.max(above[at - 1], above[at + 1]));
                    longest = Math.max(longest, below[at]);
                }
                at++;
            }
            return longest;
        }
    }

    /** All SETTINGS all LINES of which FIT, by the PLACE they have come to and by how many LINES. */
    private static final class Paper {
        private final int[] costs = new int[SLOTS];
        private final int[] pays = new int[SLOTS];
        // The PLACES at which LINES END in the BEST that comes here, as bits.
        private final int[] ends = new int[SLOTS];
        // How many SETTINGS come here; the others tell nothing where it is 0.
        private final long[] reached = new long[SLOTS];
        private final Line line = new Line();
        private int lastPlace = NONE;

        /** With bars alone it tells which SETTINGS can be, not what they cost and pay: narrow() asks for no more, often. */
        void layOut(Galley galley, Text law, int measure, boolean barsAlone) {
            Arrays.fill(reached, 0);
            costs[0] = 0;
            pays[0] = 0;
            ends[0] = 0;
            reached[0] = 1;
            lastPlace = 2 * galley.words - 1;
            for (int from = NONE; from < lastPlace; from++) {
                if (from != NONE && !galley.canEndAt(from)) {
                    continue;
                }
                for (int to = from + 1; to <= lastPlace; to++) {
                    if (!galley.canEndAt(to)) {
                        continue;
                    }
                    line.measureUp(galley, from, to);
                    // A LINE that ends further on is never less wide.
                    if (line.width > measure) {
                        break;
                    }
                    layLine(galley, law, measure, from, barsAlone);
                }
            }
        }

        private void layLine(Galley galley, Text law, int measure, int from, boolean barsAlone) {
            boolean judged = false;
            for (int number = 0; number < MOST_LINES; number++) {
                int here = slot(from, number);
                int there = slot(line.to, number + 1);
                if (here == NONE || there == NONE || reached[here] == 0) {
                    continue;
                }
                // Most LAWS do not ask which LINE it is: one judgement is enough then.
                if (!judged || law != null && law.asksLine) {
                    line.judge(galley, law, measure, number, barsAlone);
                    judged = true;
                }
                if (line.fits) {
                    join(here, there);
                }
            }
        }

        private void join(int here, int there) {
            int cost = costs[here] + line.costs;
            int row = ends[here] | 1 << line.to;
            boolean first = reached[there] == 0;
            if (first || isBetter(cost, row, there)) {
                costs[there] = cost;
                ends[there] = row;
            }
            int paid = pays[here] + line.pays;
            pays[there] = first ? paid : Math.max(paid, pays[there]);
            reached[there] += reached[here];
        }

        /** Whether a SETTING costs less than that in a slot, or as much and comes first as a row of PLACES. */
        private boolean isBetter(int cost, int row, int there) {
            if (cost != costs[there]) {
                return cost < costs[there];
            }
            int differing = row ^ ends[there];
            return (row & differing & -differing) != 0;
        }

        private static int slot(int place, int number) {
            if (place < NONE || place >= MOST_LINES || number < 0 || number >= COLUMNS) {
                return NONE;
            }
            return (place + 1) * COLUMNS + number;
        }

        boolean canBeOf(int k) {
            int there = slot(lastPlace, k);
            return there != NONE && reached[there] > 0;
        }

        boolean canBeOfAtMost(int k) {
            for (int i = 0; i <= k && i <= MOST_LINES; i++) {
                if (canBeOf(i)) {
                    return true;
                }
            }
            return false;
        }

        int leastOfJust(int k) {
            int there = slot(lastPlace, k);
            return there != NONE && reached[there] > 0 ? costs[there] : NONE;
        }

        private int bestSlot() {
            int found = NONE;
            for (int k = 0; k <= MOST_LINES; k++) {
                int there = slot(lastPlace, k);
                if (there == NONE || reached[there] == 0) {
                    continue;
                }
                if (found == NONE || isBetter(costs[there], ends[there], found)) {
                    found = there;
                }
            }
            return found;
        }

        int bestCosts() {
            int found = bestSlot();
            return found == NONE ? NONE : costs[found];
        }

        int bestPlace(int i) {
            int found = bestSlot();
            if (found == NONE || i < 0) {
                return NONE;
            }
            int left = i;
            for (int place = 0; place <= lastPlace && place < MOST_LINES; place++) {
                if ((ends[found] >> place & 1) == 1) {
                    if (left == 0) {
                        return place;
                    }
                    left--;
                }
            }
            return NONE;
        }

        long waysInAll() {
            long sum = 0;
            for (int k = 0; k <= MOST_LINES; k++) {
                int there = slot(lastPlace, k);
                sum += there == NONE ? 0 : reached[there];
            }
            return sum;
        }

        int mostPaid() {
            int paid = NONE;
            for (int k = 0; k <= MOST_LINES; k++) {
                int there = slot(lastPlace, k);
                if (there != NONE && reached[there] > 0) {
                    paid = Math.max(paid, pays[there]);
                }
            }
            return paid;
        }
    }

    /** Where LINES are ended, WORDS split and swelled and PROOFS passed, so that it can be undone. */
    private static final class Desk {
        final Galley galley = new Galley();
        final Log log = new Log();
        final Sheet sheet = new Sheet();
        private final Machine machine = new Machine();
        private final Galley galleyAhead = new Galley();
        private final Log logAhead = new Log();
        private final int[] facts = new int[ORDER_FACTS];
        private int latestTold = NONE;
        int done;

        /** 0 if it was done, else by what it is REFUSED. */
        int attempt(int verb, int word, int wide) {
            int why = galley.whyNot(verb, word, wide);
            if (why == 0) {
                log.note(verb, word, galley.wideOf(word));
                galley.carryOutIfItCanBe(verb, word, wide);
            }
            return why;
        }

        void begin() {
            galleyAhead.copyFrom(galley);
            logAhead.copyFrom(log);
            done = 0;
            latestTold = NONE;
        }

        void giveUp() {
            galley.copyFrom(galleyAhead);
            log.copyFrom(logAhead);
        }

        /** Whether a CLAUSE could be, or was not to be run. */
        boolean runOnce(Text orders, int c) {
            if (c < 0 || c >= MOST_CLAUSES) {
                return false;
            }
            sheet.readSetting(galley);
            gatherOrderFacts();
            if (orders.test[c] != NONE && machine.valueOf(orders, orders.test[c], facts) == 0) {
                return true;
            }
            long first = 0;
            long second = 0;
            if (orders.firstSum[c] != NONE) {
                first = machine.valueOf(orders, orders.firstSum[c], facts);
                if (machine.broken) {
                    return false;
                }
            }
            if (orders.secondSum[c] != NONE) {
                second = machine.valueOf(orders, orders.secondSum[c], facts);
                if (machine.broken) {
                    return false;
                }
            }
            if (attempt(orders.verb[c], (int) first, (int) second) != 0) {
                return false;
            }
            if (orders.verb[c] == DO_PASS) {
                latestTold = facts[ORDER_FIT];
            }
            done++;
            return true;
        }

        private void gatherOrderFacts() {
            facts[ORDER_PROOF] = galley.terms[PROOF];
            facts[ORDER_DONE] = done;
            facts[ORDER_LATEST] = latestTold;
            facts[ORDER_LINES] = sheet.lines;
            facts[ORDER_FIT] = sheet.together(TOLD_FITS);
            for (int w = 0; w < MOST_WORDS; w++) {
                facts[ORDER_WIDE_0 + w] = galley.wideOf(w);
                facts[ORDER_ENDS_0 + w] = endsOf(w);
            }
        }

        private int endsOf(int w) {
            if (!galley.has(w)) {
                return NONE;
            }
            return (galley.endsAfter(w) ? 1 : 0) + (galley.isSplit(w) ? 2 : 0);
        }
    }
}
