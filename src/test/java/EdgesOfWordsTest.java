/** Each sentence on WORDS, the SETTING, TERMS and changes (Terms I, III; promises 1 to 6, 16 to 20): inside its boundary and outside. */
public final class EdgesOfWordsTest extends Bench {
    public static void main(String[] args) {
        noWordsAtFirst();
        twelveWords();
        wide();
        splits();
        kind();
        endsAfterTheLast();
        noneSplitAtFirst();
        lineEndsNoMore();
        of();
        proofTerm();
        slipsTerm();
        moodTerm();
        measureTerm();
        otherTerms();
        refusedInOrder();
        placesOfLines();
        pieces();
        hyphen();
        lineOf();
        linesAtMost();
        fits();
        barredDoesNotFit();
        all();
        stop();
        split();
        swell();
        swellMoreThanItSplits();
        pass();
        passAheadOfIt();
        undoTells();
        undoKeepsSixteen();
        undoNothingAheadOf();
        undoBehindRefusedCalls();
        undoWhatWas();
        finish();
    }

    private static void noWordsAtFirst() {
        about("1: No WORDS.");
        GalleyRoom x = new GalleyRoom();
        int[] counts = {0, 0, 0, 0, 0, 0, 0, 0, 0, 0, 0, 0, -1, 0, 1, 0, 30};
        for (int i = 0; i < counts.length; i++) due(x.count(i), counts[i]);
        due(x.of(0, 0), -1);
        due(x.line(0, 0), -1);
        due(x.all(0), 0);
        due(x.all(1), 0);
        due(x.all(2), 0);
        due(x.status(), 0);
        due(x.turned(), 0);
        due(x.fault(), -1);
        due(x.stopped(), -1);
        due(x.drawn(0, 0), -1);
        due(x.canBe(), 0);
        due(x.river(), 0);
        due(x.forget(), 0);
        due(GalleyRoom.NONE, -1);
    }

    private static void twelveWords() {
        about("I: WORDS 0 .. 11 (12 at most)");
        GalleyRoom x = new GalleyRoom();
        for (int i = 0; i < 12; i++) {
            due(x.of(i, 0), -1);
            due(x.word(3, 1, 2), i);
            due(x.of(i, 0), 3);
        }
        due(x.status(), 0);
        due(x.word(3, 1, 2), -5);
        due(x.status(), -5);
        due(x.count(10), 1);
        due(x.count(0), 12);
        due(x.of(12, 0), -1);
        due(x.stop(10), 1);
        due(x.stop(11), -3);
        due(x.stop(12), -2);
        due(x.split(11), 1);
        due(x.split(12), -2);
        due(x.swell(11, 4), 3);
        due(x.swell(12, 4), -2);
        due(x.weeks(1, 1) >= 0 ? 1 : 0, 1);
        due(x.drawn(11, 0) >= 1 ? 1 : 0, 1);
        due(x.drawn(12, 0), -1);
    }

    private static void wide() {
        about("I: WIDE 1 .. 20");
        GalleyRoom x = new GalleyRoom();
        due(x.word(0, 0, 0), -1);
        due(x.word(-1, 0, 0), -1);
        due(x.word(LOWEST, 0, 0), -1);
        due(x.word(21, 0, 0), -1);
        due(x.word(HIGHEST, 0, 0), -1);
        due(x.count(0), 0);
        due(x.count(7), 5);
        due(x.word(1, 0, 0), 0);
        due(x.word(20, 0, 0), 1);
        due(x.of(0, 0), 1);
        due(x.of(1, 0), 20);
    }

    private static void splits() {
        about("I: SPLITS 0 .. 19 (less than it is WIDE; 0: it can't be split)");
        GalleyRoom x = new GalleyRoom();
        due(x.word(20, -1, 0), -1);
        due(x.word(20, LOWEST, 0), -1);
        due(x.word(20, 20, 0), -1);
        due(x.word(20, 21, 0), -1);
        due(x.word(20, HIGHEST, 0), -1);
        due(x.word(19, 19, 0), -1);
        due(x.word(2, 2, 0), -1);
        due(x.word(2, 3, 0), -1);
        due(x.word(1, 1, 0), -1);
        due(x.count(7), 9);
        due(x.word(20, 19, 0), 0);
        due(x.word(2, 1, 0), 1);
        due(x.word(1, 0, 0), 2);
        due(x.word(20, 0, 0), 3);
        int[] told = {19, 1, 0, 0};
        for (int w = 0; w < 4; w++) due(x.of(w, 1), told[w]);
        due(x.split(0), 1);
        due(x.split(1), 1);
        due(x.split(2), -3);
        due(x.split(3), -3);
    }

    private static void kind() {
        about("I: a KIND 0 .. 3");
        GalleyRoom x = new GalleyRoom();
        due(x.word(5, 0, -1), -1);
        due(x.word(5, 0, LOWEST), -1);
        due(x.word(5, 0, 4), -1);
        due(x.word(5, 0, HIGHEST), -1);
        due(x.word(5, 0, 0), 0);
        due(x.word(5, 0, 3), 1);
        due(x.of(0, 2), 0);
        due(x.of(1, 2), 3);
    }

    private static void endsAfterTheLast() {
        about("I: after some of them a LINE ENDS (after the last one always)");
        GalleyRoom x = room(5);
        due(x.of(0, 3), 1);
        due(x.count(1), 1);
        x.word(6, 0, 0);
        due(x.of(0, 3), 0);
        due(x.of(1, 3), 1);
        due(x.count(1), 1);
        due(x.stop(1), -3);
        due(x.of(1, 3), 1);
    }

    private static void noneSplitAtFirst() {
        about("I: some are SPLIT (none at first)");
        GalleyRoom x = twelve(4, 2, 30);
        for (int w = 0; w < 12; w++) due(x.of(w, 4), 0);
        due(x.count(1), 1);
        x = new GalleyRoom();
        type(x, "\4\2\0");
        x.row();
        due(x.of(0, 4), 0);
    }

    private static void lineEndsNoMore() {
        about("2: its number (no LINE ENDS after the one that was the last till then)");
        GalleyRoom x = room(5, 5);
        x.stop(0);
        due(x.of(1, 3), 1);
        due(x.word(5, 0, 0), 2);
        due(x.of(0, 3), 1);
        due(x.of(1, 3), 0);
        due(x.of(2, 3), 1);
        due(x.word(0, 0, 0), -1);
        due(x.of(2, 3), 1);
        x.stop(1);
        x.image(0);
        x.word(5, 0, 0);
        x.stop(2);
        x.back(0);
        x.word(5, 0, 0);
        due(x.of(1, 3), 1);
        due(x.of(2, 3), 0);
        type(x, "\5\0\0");
        due(x.row(), 1);
        due(x.of(3, 3), 0);
        due(x.of(4, 3), 1);
        for (int i = 5; i < 12; i++) x.word(5, 0, 0);
        due(x.word(5, 0, 0), -5);
        due(x.of(11, 3), 1);
    }

    private static void of() {
        about("3: Of a WORD WIDE (what 0) .. whether it is SPLIT (4). NONE.");
        GalleyRoom x = four();
        x.split(2);
        int[] told = {12, 6, 2, 0, 1};
        for (int what = 0; what < 5; what++) due(x.of(2, what), told[what]);
        for (int what : new int[] {-1, 5, LOWEST, HIGHEST}) due(x.of(2, what), -1);
        for (int word : new int[] {-1, 4, 12, LOWEST, HIGHEST}) for (int what = 0; what < 5; what++) due(x.of(word, what), -1);
        due(x.status(), 0);
        due(x.count(7), 0);
        due(x.count(8), 0);
    }

    private static void term(int what, int first, int least, int most) {
        GalleyRoom x = new GalleyRoom();
        due(x.count(13 + what), first);
        for (int value : new int[] {least - 1, most + 1, LOWEST, HIGHEST}) {
            due(x.terms(what, value), -1);
            due(x.status(), -1);
            due(x.count(13 + what), first);
        }
        due(x.count(7), 4);
        due(x.terms(what, least), first);
        due(x.status(), 0);
        due(x.terms(what, most), least);
        due(x.count(13 + what), most);
        due(x.terms(what, most), most);
        for (int other = 0; other < 4; other++) if (other != what) due(x.count(13 + other), new int[] {0, 1, 0, 30}[other]);
    }

    private static void proofTerm() {
        about("I: 0 PROOF 0 .. 999 (0 at first)");
        term(0, 0, 0, 999);
    }

    private static void slipsTerm() {
        about("I: 1 SLIPS 0 .. 10 (1)");
        term(1, 1, 0, 10);
    }

    private static void moodTerm() {
        about("I: 2 MOOD 0 .. 9 (0)");
        term(2, 0, 0, 9);
    }

    private static void measureTerm() {
        about("I: 3 MEASURE 10 .. 60 (30)");
        term(3, 30, 10, 60);
    }

    private static void otherTerms() {
        about("6: A TERM: what it was. -1.");
        GalleyRoom x = new GalleyRoom();
        for (int what : new int[] {-1, 4, LOWEST, HIGHEST}) {
            due(x.terms(what, 10), -1);
            due(x.terms(what, 0), -1);
            due(x.status(), -1);
        }
        due(x.count(7), 8);
        int[] first = {0, 1, 0, 30};
        for (int what = 0; what < 4; what++) due(x.terms(what, 10 - (what == 2 ? 1 : 0)), first[what]);
    }

    private static void refusedInOrder() {
        about("I: REFUSED by: -1, -2, -3, -5, -6. The first of these in that order.");
        GalleyRoom x = four();
        due(x.swell(4, 0), -1);
        due(x.swell(4, 21), -1);
        due(x.swell(4, 20), -2);
        due(x.swell(-1, 0), -1);
        due(x.swell(0, 0), -1);
        due(x.back(2), -1);
        due(x.back(1), -2);
        GalleyRoom none = new GalleyRoom();
        due(none.weeks(-1, 1), -1);
        due(none.weeks(0, 0), -1);
        due(none.weeks(0, 1), -3);
        due(none.stop(0), -2);
        due(none.split(0), -2);
        due(none.swell(0, 0), -1);
        due(none.swell(0, 1), -2);
        GalleyRoom full = twelve(2, 1, 30);
        due(full.word(0, 0, 0), -1);
        due(full.word(2, 2, 0), -1);
        due(full.word(2, 1, 4), -1);
        due(full.word(2, 1, 3), -5);
        for (int i = 0; i < 6; i++) full.seen(0, 0);
        due(full.seen(4, 0), -1);
        due(full.seen(0, 1000), -1);
        due(full.seen(0, 999), -5);
        for (int i = 0; i < 6; i++) law(full, "bars");
        due(law(full, "no law"), -5);
        due(full.law(), -5);
        due(full.row(), -6);
    }

    private static void placesOfLines() {
        about("III: PLACES: 2 times w within WORD w, 2 times w and 1 after it (after the last one, too)");
        GalleyRoom x = twelve(4, 2, 30);
        for (int w = 0; w < 12; w++) x.split(w);
        for (int w = 0; w < 11; w++) x.stop(w);
        due(x.count(1), 24);
        for (int i = 0; i < 24; i++) due(x.line(i, 0), i);
        due(x.line(24, 0), -1);
        for (int w = 0; w < 11; w++) x.stop(w);
        due(x.count(1), 13);
        for (int w = 0; w < 12; w++) due(x.line(w, 0), 2 * w);
        due(x.line(12, 0), 23);
        due(x.line(13, 0), -1);
        for (int w = 0; w < 12; w++) x.split(w);
        due(x.line(0, 0), 23);
        due(x.line(1, 0), -1);
        about("III: 2 times w within WORD w, if it can be split");
        GalleyRoom one = room(20);
        due(one.ways(), 1);
        one = new GalleyRoom();
        one.word(20, 1, 0);
        due(one.ways(), 2);
        due(one.just(2), 28);
        due(one.best(0), 1);
    }

    private static void pieces() {
        about("III: PIECES the second PART of a WORD that is SPLIT at its beginning, whole WORDS, the first PART of one at its end");
        GalleyRoom x = new GalleyRoom();
        x.word(9, 4, 0);
        x.word(3, 0, 0);
        x.word(10, 7, 0);
        due(x.line(0, 1), 24);
        due(x.line(0, 2), 3);
        x.split(0);
        due(x.line(0, 1), 5);
        due(x.line(0, 2), 1);
        due(x.line(1, 1), 5 + 1 + 3 + 1 + 10);
        due(x.line(1, 2), 3);
        x.split(2);
        due(x.line(1, 1), 5 + 1 + 3 + 1 + 7 + 1);
        due(x.line(1, 2), 3);
        due(x.line(2, 1), 3);
        due(x.line(2, 2), 1);
        x.stop(0);
        due(x.line(1, 1), 5);
        due(x.line(1, 2), 1);
        due(x.line(2, 1), 3 + 1 + 7 + 1);
        due(x.line(2, 2), 2);
        x.stop(1);
        due(x.line(3, 1), 8);
        due(x.line(3, 2), 1);
        due(x.line(4, 1), 3);
        due(x.count(1), 5);
        about("III: the first PART (what it SPLITS), the second (WIDE less what it SPLITS), of one WORD SPLIT");
        GalleyRoom y = new GalleyRoom();
        y.word(20, 19, 0);
        y.word(20, 1, 0);
        y.split(0);
        y.split(1);
        int[] widths = {20, 1 + 1 + 1 + 1, 19};
        for (int i = 0; i < 3; i++) due(y.line(i, 1), widths[i]);
        due(y.swell(1, 2), 20);
        due(y.line(1, 1), 4);
        due(y.line(2, 1), 1);
    }

    private static void hyphen() {
        about("III: WIDTH: 1 more between each two, 1 more for the hyphen, if a WORD is SPLIT at its end");
        GalleyRoom x = new GalleyRoom();
        x.word(1, 0, 0);
        due(x.line(0, 1), 1);
        x.word(2, 1, 0);
        due(x.line(0, 1), 4);
        x.split(1);
        due(x.line(0, 1), 1 + 1 + 1 + 1);
        due(x.line(1, 1), 1);
        x.stop(0);
        due(x.line(0, 1), 1);
        due(x.line(1, 1), 2);
        GalleyRoom wide = twelve(20, 1, 60);
        due(wide.line(0, 1), 251);
    }

    private static void lineOf() {
        about("4: Of LINE i the PLACE at which it ENDS (what 0) .. whether it FITS (6). NONE.");
        GalleyRoom x = four();
        x.stop(1);
        int[][] told = {{3, 19, 2, 1, 2, 0, 1}, {7, 18, 2, 0, 2, 0, 1}};
        for (int i = 0; i < 2; i++) for (int what = 0; what < 7; what++) due(x.line(i, what), told[i][what]);
        for (int i : new int[] {-1, 2, 23, 24, LOWEST, HIGHEST}) for (int what = 0; what < 7; what++) due(x.line(i, what), -1);
        for (int what : new int[] {-1, 7, LOWEST, HIGHEST}) due(x.line(0, what), -1);
        due(x.status(), 0);
        due(x.count(7), 0);
        for (int what = 0; what < 7; what++) due(new GalleyRoom().line(0, what), -1);
    }

    private static void linesAtMost() {
        about("III: of 12 WORDS 24 LINES");
        GalleyRoom x = by(twelve(20, 10, 11), "costs 999; pays 99");
        for (int w = 0; w < 11; w++) x.stop(w);
        for (int w = 0; w < 12; w++) x.split(w);
        due(x.count(1), 24);
        due(x.count(2), 24);
        due(x.all(0), 24 * 999);
        due(x.all(1), 24 * 99);
        due(x.all(2), 24);
        due(x.line(23, 6), 1);
        due(x.line(24, 6), -1);
        due(x.canBe(), 0xFFFFFF);
        due(x.pass(), 24);
    }

    private static void fits() {
        about("III: It FITS, if that is MEASURE at most");
        GalleyRoom x = room(5, 6);
        x.terms(3, 12);
        due(x.line(0, 1), 12);
        due(x.line(0, 6), 1);
        due(x.count(2), 1);
        x.terms(3, 11);
        due(x.line(0, 6), 0);
        due(x.count(2), 0);
        due(x.fewest(), 2);
        x.terms(3, 12);
        due(x.fewest(), 1);
        x.swell(1, 7);
        due(x.line(0, 6), 0);
        GalleyRoom widest = room(20, 20, 18);
        widest.terms(3, 60);
        due(widest.line(0, 6), 1);
        widest.swell(2, 19);
        due(widest.line(0, 6), 0);
        due(widest.line(0, 3), 0);
        GalleyRoom least = room(10);
        least.terms(3, 10);
        due(least.line(0, 6), 1);
        least.swell(0, 11);
        due(least.line(0, 6), 0);
    }

    private static void barredDoesNotFit() {
        about("III: and it is not BARRED");
        GalleyRoom x = by(room(5, 6), "bars if short < 1");
        x.terms(3, 12);
        due(x.line(0, 5), 1);
        due(x.line(0, 6), 0);
        x.terms(3, 13);
        due(x.line(0, 5), 0);
        due(x.line(0, 6), 1);
        x.terms(3, 11);
        due(x.line(0, 5), 1);
        due(x.line(0, 6), 0);
        x.force(-1);
        due(x.line(0, 5), 0);
        due(x.line(0, 6), 0);
    }

    private static void all() {
        about("5: What all LINES COST together (what 0), PAY (1), how many FIT (2). NONE for others.");
        GalleyRoom x = four();
        x.stop(0);
        x.stop(1);
        due(x.all(0), 10 + 12 + 0);
        due(x.all(1), 4);
        due(x.all(2), 3);
        for (int what : new int[] {-1, 3, LOWEST, HIGHEST}) {
            due(x.all(what), -1);
            due(new GalleyRoom().all(what), -1);
        }
        due(x.status(), 0);
    }

    private static void stop() {
        about("16: To END after a WORD: whether a LINE ENDS after it then (1, 0). -2; -3 the last one.");
        GalleyRoom x = room(5, 5, 5);
        due(x.stop(0), 1);
        due(x.stop(1), 1);
        due(x.count(1), 3);
        due(x.stop(1), 0);
        due(x.count(1), 2);
        due(x.of(0, 3), 1);
        due(x.of(1, 3), 0);
        for (int word : new int[] {-1, 3, 12, LOWEST, HIGHEST}) {
            due(x.stop(word), -2);
            due(x.status(), -2);
        }
        due(x.stop(2), -3);
        due(x.status(), -3);
        due(x.count(8), 5);
        due(x.count(9), 1);
        due(x.count(5), 3);
        due(x.of(2, 3), 1);
        due(room(5).stop(0), -3);
        due(x.stop(0), 0);
        due(x.status(), 0);
    }

    private static void split() {
        about("17: To SPLIT: whether it is SPLIT then (1, 0). -2; -3 it can't be.");
        GalleyRoom x = four();
        due(x.split(1), 1);
        due(x.split(2), 1);
        due(x.split(1), 0);
        due(x.of(1, 4), 0);
        due(x.of(2, 4), 1);
        for (int word : new int[] {-1, 4, 12, LOWEST, HIGHEST}) {
            due(x.split(word), -2);
            due(x.status(), -2);
        }
        due(x.split(0), -3);
        due(x.split(3), -3);
        due(x.status(), -3);
        due(x.count(8), 5);
        due(x.count(9), 2);
        due(x.count(5), 3);
        due(x.of(0, 4), 0);
        GalleyRoom last = new GalleyRoom();
        last.word(2, 1, 0);
        due(last.split(0), 1);
        due(last.count(1), 2);
        due(last.of(0, 3), 1);
    }

    private static void swell() {
        about("18: To SWELL: how WIDE it was. -1; -2; -3 it is so");
        GalleyRoom x = room(5, 6);
        for (int wide : new int[] {0, -1, 21, LOWEST, HIGHEST}) {
            due(x.swell(0, wide), -1);
            due(x.status(), -1);
        }
        for (int word : new int[] {-1, 2, 12, LOWEST, HIGHEST}) {
            due(x.swell(word, 9), -2);
            due(x.status(), -2);
        }
        due(x.swell(0, 5), -3);
        due(x.status(), -3);
        due(x.count(7), 5);
        due(x.count(8), 5);
        due(x.count(9), 1);
        due(x.count(5), 0);
        due(x.of(0, 0), 5);
        due(x.swell(0, 1), 5);
        due(x.swell(0, 20), 1);
        due(x.swell(0, 20), -3);
        due(x.swell(0, 19), 20);
        due(x.of(0, 0), 19);
        due(x.of(1, 0), 6);
        due(x.count(5), 3);
        due(x.status(), 0);
    }

    private static void swellMoreThanItSplits() {
        about("18, III: -3 not more than it SPLITS");
        GalleyRoom x = new GalleyRoom();
        x.word(20, 10, 0);
        x.word(20, 19, 0);
        x.word(2, 1, 0);
        due(x.swell(0, 9), -3);
        due(x.swell(0, 10), -3);
        due(x.status(), -3);
        due(x.of(0, 0), 20);
        due(x.swell(0, 11), 20);
        due(x.of(0, 1), 10);
        due(x.swell(1, 19), -3);
        due(x.swell(1, 20), -3);
        due(x.swell(2, 1), -3);
        due(x.swell(2, 3), 2);
        due(x.swell(2, 2), 3);
        due(x.count(9), 5);
        x.split(0);
        due(x.swell(0, 10), -3);
        due(x.swell(0, 12), 11);
        due(x.line(1, 1), 2 + 1 + 20 + 1 + 2);
    }

    private static void pass() {
        about("III, 19: it is the next PROOF (at 999 it can't be). -3.");
        GalleyRoom x = room(5);
        due(x.pass(), 1);
        due(x.count(13), 1);
        x.terms(0, 997);
        due(x.pass(), 1);
        due(x.pass(), 1);
        due(x.count(13), 999);
        due(x.pass(), -3);
        due(x.status(), -3);
        due(x.count(13), 999);
        due(x.count(5), 2);
        due(x.undo(), 3);
        due(x.count(13), 998);
        due(x.pass(), 1);
        due(x.count(13), 999);
        due(new GalleyRoom().pass(), 0);
    }

    private static void passAheadOfIt() {
        about("19: A PROOF: how many LINES FIT (ahead of it).");
        GalleyRoom x = by(room(5, 5, 5), "bars if proof = line");
        x.stop(0);
        x.stop(1);
        due(x.pass(), 2);
        due(x.pass(), 2);
        due(x.pass(), 2);
        due(x.pass(), 3);
        x.terms(0, 2);
        due(x.count(2), 2);
        due(x.pass(), 2);
        due(x.count(2), 3);
    }

    private static void undoTells() {
        about("20: is undone: 0 .. 3. -3 there is none");
        GalleyRoom x = four();
        due(x.undo(), -3);
        due(x.status(), -3);
        x.stop(0);
        due(x.undo(), 0);
        due(x.status(), 0);
        due(x.undo(), -3);
        x.split(1);
        due(x.undo(), 1);
        x.swell(1, 9);
        due(x.undo(), 2);
        x.pass();
        due(x.undo(), 3);
        due(x.undo(), -3);
        due(x.count(9), 3);
        due(x.count(5), 0);
        due(orders(x, "end 0; split 1; swell 1 to 9; pass"), 4);
        for (int told = 3; told >= 0; told--) {
            due(x.count(5), told + 1);
            due(x.undo(), told);
        }
        due(x.undo(), -3);
        due(x.count(1), 1);
    }

    private static void undoKeepsSixteen() {
        about("20: (by ORDERS, too; 16 are kept)");
        for (int made : new int[] {15, 16, 17, 33}) {
            GalleyRoom x = room(5, 5);
            for (int i = 0; i < made; i++) due(x.pass(), 1);
            int kept = Math.min(made, 16);
            due(x.count(5), kept);
            for (int i = 0; i < kept; i++) due(x.undo(), 3);
            due(x.undo(), -3);
            due(x.count(13), made - kept);
        }
        for (int passes : new int[] {1, 2}) {
            GalleyRoom x = room(5, 5);
            due(orders(x, "swell 0 to wide 0 + 1 times 15; pass times " + passes), 15 + passes);
            due(x.count(5), 16);
            for (int i = 0; i < passes; i++) due(x.undo(), 3);
            for (int i = passes; i < 16; i++) due(x.undo(), 2);
            due(x.undo(), -3);
            due(x.of(0, 0), 4 + passes);
        }
        GalleyRoom x = room(5, 5);
        x.stop(0);
        orders(x, "pass times 15");
        due(x.count(5), 16);
        x.pass();
        for (int i = 0; i < 16; i++) due(x.undo(), 3);
        due(x.undo(), -3);
        due(x.of(0, 3), 1);
        about("20: the 16 that are kept are the latest");
        GalleyRoom y = twelve(4, 2, 30);
        for (int w = 0; w < 11; w++) y.stop(w);
        for (int w = 0; w < 5; w++) y.split(w);
        due(y.swell(9, 5), 4);
        due(y.undo(), 2);
        due(y.of(9, 0), 4);
        for (int w = 4; w >= 0; w--) {
            due(y.undo(), 1);
            due(y.of(w, 4), 0);
        }
        for (int w = 10; w >= 1; w--) {
            due(y.undo(), 0);
            due(y.of(w, 3), 0);
        }
        due(y.undo(), -3);
        due(y.of(0, 3), 1);
        due(y.of(0, 4), 0);
        GalleyRoom z = room(5, 6, 7);
        for (int i = 0; i < 15; i++) z.stop(0);
        z.swell(2, 9);
        z.stop(1);
        due(z.undo(), 0);
        due(z.undo(), 2);
        due(z.of(2, 0), 7);
    }

    private static void undoNothingAheadOf() {
        about("20: (nothing that was ahead of a word(), terms(), row(), back() that was not REFUSED can be undone)");
        GalleyRoom x = room(5, 5);
        x.stop(0);
        x.word(5, 0, 0);
        due(x.count(5), 0);
        due(x.undo(), -3);
        due(x.of(0, 3), 1);
        x.stop(0);
        due(x.terms(1, 1), 1);
        due(x.count(5), 0);
        due(x.undo(), -3);
        x.stop(0);
        type(x, "\5\0\0");
        due(x.row(), 1);
        due(x.undo(), -3);
        x.stop(0);
        type(x, "\0");
        due(x.row(), 0);
        due(x.count(5), 0);
        due(x.undo(), -3);
        x.image(0);
        x.stop(0);
        x.back(0);
        due(x.undo(), -3);
        x.stop(0);
        x.image(0);
        due(x.count(5), 1);
        x.back(0);
        due(x.count(5), 0);
        due(x.undo(), -3);
        x.pass();
        due(x.undo(), 3);
        due(x.undo(), -3);
    }

    private static void undoBehindRefusedCalls() {
        about("20: REFUSED ones, and all other calls, leave what can be undone");
        GalleyRoom x = twelve(2, 1, 30);
        x.stop(0);
        due(x.word(0, 0, 0), -1);
        due(x.word(1, 0, 0), -5);
        due(x.terms(0, 1000), -1);
        due(x.row(), -6);
        due(x.back(2), -1);
        due(x.back(0), -2);
        due(x.image(0), 0);
        due(x.weeks(0, 60) >= 0 ? 1 : 0, 1);
        due(law(x, "bars"), 0);
        due(law(x, "bar"), -6);
        due(x.force(0), -1);
        due(x.seen(0, 0), 1);
        due(x.forget(), 1);
        due(orders(x, "pass; end 11"), -3);
        due(orders(x, "pas"), -6);
        due(orders(x, "pass if 1 = 2"), 0);
        due(x.stop(11), -3);
        due(x.count(5), 1);
        due(x.undo(), 0);
        due(x.of(0, 3), 0);
        due(x.count(12), 0);
        due(x.count(4), 1);
    }

    private static void undoWhatWas() {
        about("20: (where LINES END, what is SPLIT, how WIDE WORDS are, PROOF are as they were)");
        GalleyRoom x = four();
        x.terms(0, 998);
        x.stop(0);
        x.stop(1);
        x.stop(0);
        x.split(2);
        x.split(2);
        x.swell(1, 20);
        x.swell(1, 5);
        x.pass();
        due(x.undo(), 3);
        due(x.count(13), 998);
        due(x.undo(), 2);
        due(x.of(1, 0), 20);
        due(x.undo(), 2);
        due(x.of(1, 0), 8);
        due(x.undo(), 1);
        due(x.of(2, 4), 1);
        due(x.undo(), 1);
        due(x.of(2, 4), 0);
        due(x.undo(), 0);
        due(x.of(0, 3), 1);
        due(x.undo(), 0);
        due(x.of(1, 3), 0);
        due(x.undo(), 0);
        due(x.of(0, 3), 0);
        due(x.undo(), -3);
        due(x.count(13), 998);
        due(x.of(1, 0), 8);
    }
}
