/** Each sentence on the SETTINGS on paper, RIVERS and COMPARED (Terms III; promises 21 to 29, 35): inside its boundary and outside. */
public final class EdgesOfPaperTest extends Bench {
    public static void main(String[] args) {
        allLinesFit();
        whateverTheSettingIs();
        best();
        bestFirstOfRows();
        bestOfNone();
        bestOfMany();
        just();
        fewestAndMost();
        ways();
        richest();
        narrow();
        narrowAtMost();
        narrowByTheLaw();
        leaveOut();
        leaveOutTheLowest();
        leaveOutOfFew();
        leaveOutMovesUp();
        river();
        riverWithin1();
        riverAt();
        riverOneBehindTheOther();
        riverFittingOrNot();
        riverOfParts();
        compare();
        compareInPlace();
        finish();
    }

    /** Nothing can be set: two WORDS that are too wide. */
    private static GalleyRoom noSetting() {
        GalleyRoom x = room(20, 20);
        x.terms(3, 19);
        return x;
    }

    private static void allLinesFit() {
        about("III: all SETTINGS all LINES of which FIT");
        GalleyRoom x = room(5, 5);
        x.terms(3, 11);
        due(x.ways(), 2);
        due(x.fewest(), 1);
        x.terms(3, 10);
        due(x.ways(), 1);
        due(x.fewest(), 2);
        GalleyRoom y = room(20);
        y.terms(3, 20);
        due(y.ways(), 1);
        y.terms(3, 19);
        due(y.ways(), 0);
        GalleyRoom z = new GalleyRoom();
        z.word(20, 10, 0);
        z.terms(3, 11);
        due(z.ways(), 1);
        z.terms(3, 10);
        due(z.ways(), 0);
        z = by(room(5, 5), "bars if pieces = 2");
        due(z.ways(), 1);
        by(z, "bars if pieces = 1 and line = 0");
        due(z.ways(), 1);
        due(z.fewest(), 1);
        by(z, "bars if last = 1");
        due(z.ways(), 0);
    }

    private static void whateverTheSettingIs() {
        about("III: (On paper, whatever the SETTING is)");
        GalleyRoom x = four();
        x.stop(0);
        x.stop(2);
        x.split(1);
        x.split(2);
        due(x.best(-1), 1);
        due(x.best(0), 3);
        due(x.just(2), 1);
        due(x.fewest(), 2);
        due(x.most(), 6);
        due(x.ways(), 24);
        due(x.richest(), 6);
        due(x.narrow(1), 38);
        due(x.leaveOut(0), 2);
        due(x.compare(-1), 1);
        due(x.count(1), 5);
        due(x.count(5), 4);
        due(x.count(16), 20);
    }

    private static void best() {
        about("21: The BEST: what it COSTS (i NONE; no WORDS: 0), the PLACE at which its LINE i ENDS. NONE (not so many).");
        GalleyRoom x = four();
        due(x.best(-1), 1);
        due(x.best(0), 3);
        due(x.best(1), 7);
        for (int i : new int[] {2, 3, 23, 24, 31, 32, -2, LOWEST, HIGHEST}) due(x.best(i), -1);
        due(x.status(), 0);
        due(x.count(7), 0);
        GalleyRoom none = new GalleyRoom();
        due(none.best(-1), 0);
        for (int i : new int[] {0, 1, -2, LOWEST, HIGHEST}) due(none.best(i), -1);
        by(none, "bars");
        due(none.best(-1), 0);
        GalleyRoom one = room(7);
        due(one.best(-1), 0);
        due(one.best(0), 1);
        due(one.best(1), -1);
    }

    private static void bestFirstOfRows() {
        about("III: the first as a row of PLACES at which LINES END, rising (the last one's, too), by the first PLACE in which they differ");
        GalleyRoom x = room(5, 5, 5);
        x.terms(3, 11);
        by(x, "costs 4");
        due(x.best(-1), 8);
        due(x.best(0), 1);
        due(x.best(1), 5);
        due(x.best(2), -1);
        by(x, "costs 4; costs 5 if line = 0 and pieces = 1");
        due(x.best(0), 3);
        due(x.best(1), 5);
        GalleyRoom y = by(twelve(4, 2, 60), "costs 0");
        for (int i = 0; i < 24; i++) due(y.best(i), i);
        due(y.best(24), -1);
        by(y, "costs 1 - line");
        due(y.best(-1), 1);
        for (int i = 0; i < 24; i++) due(y.best(i), i);
        by(y, "costs 1");
        due(y.best(-1), 1);
        due(y.best(0), 23);
        by(y, "costs 1 if last = 0; costs 0 if last = 1; bars if line = 0 and last = 1");
        due(y.best(-1), 1);
        due(y.best(0), 0);
        due(y.best(1), 23);
        by(y, "costs hyphen; bars if line = 0 and last = 1");
        due(y.best(-1), 0);
        int[] whole = {1, 3, 5, 7, 9, 11, 13, 15, 17, 19, 21, 23};
        for (int i = 0; i < 12; i++) due(y.best(i), whole[i]);
        due(y.best(12), -1);
    }

    private static void bestOfNone() {
        about("21 to 26: NONE (there is none)");
        GalleyRoom x = noSetting();
        GalleyRoom barred = by(room(5), "bars");
        for (GalleyRoom none : new GalleyRoom[] {x, barred}) {
            due(none.best(-1), -1);
            due(none.best(0), -1);
            for (int k = 0; k <= 25; k++) due(none.just(k), -1);
            due(none.fewest(), -1);
            due(none.most(), -1);
            due(none.ways(), 0);
            due(none.richest(), -1);
            due(none.status(), 0);
        }
        x.terms(3, 20);
        due(x.best(-1), 0);
        due(x.best(0), 1);
        due(x.just(2), 0);
        due(x.fewest(), 2);
        due(x.most(), 2);
        due(x.ways(), 1);
        due(x.richest(), 2);
    }

    private static void bestOfMany() {
        about("21, 22: what 24 LINES COST, at most 999 each");
        GalleyRoom x = by(twelve(20, 10, 11), "costs 1000");
        due(x.best(-1), 24 * 999);
        due(x.best(23), 23);
        due(x.best(24), -1);
        due(x.just(24), 24 * 999);
    }

    private static void just() {
        about("22: JUST k 0 .. 24 LINES. NONE (there is none; others).");
        GalleyRoom x = twelve(2, 1, 60);
        due(x.just(0), -1);
        due(x.just(1), 0);
        // "2 2 2 2 2 2 2 2 2 2 2 1-", "1": 60 - 35
        due(x.just(2), 25);
        // All that can be: "1-", "1" twelve times.
        due(x.just(24), 12 * 58 + 11 * 59);
        for (int k : new int[] {25, 26, -1, LOWEST, HIGHEST}) due(x.just(k), -1);
        for (int k = 1; k <= 24; k++) due(x.just(k) >= 0 ? 1 : 0, 1);
        GalleyRoom none = new GalleyRoom();
        due(none.just(0), 0);
        due(none.just(1), -1);
        due(none.just(24), -1);
        due(none.just(25), -1);
        due(none.just(-1), -1);
        GalleyRoom y = room(5, 5, 5);
        due(y.just(0), -1);
        due(y.just(1), 0);
        due(y.just(2), 19);
        due(y.just(3), 50);
        due(y.just(4), -1);
    }

    private static void fewestAndMost() {
        about("23, 24: FEWEST, MOST (no WORDS: 0). NONE (there is none).");
        GalleyRoom none = new GalleyRoom();
        due(none.fewest(), 0);
        due(none.most(), 0);
        by(none, "bars");
        due(none.fewest(), 0);
        due(none.most(), 0);
        GalleyRoom x = twelve(2, 1, 60);
        due(x.fewest(), 1);
        due(x.most(), 24);
        x = twelve(20, 10, 11);
        due(x.fewest(), 24);
        due(x.most(), 24);
        x.terms(3, 10);
        due(x.fewest(), -1);
        due(x.most(), -1);
        x = by(room(5, 5, 5, 5), "bars if line > 2; bars if pieces > 3");
        due(x.fewest(), 2);
        due(x.most(), 3);
        about("23 to 26: each asked alone");
        due(room(5, 5, 5).fewest(), 1);
        due(room(5, 5, 5).most(), 3);
        due(room(5, 5, 5).ways(), 4);
        due(room(5, 5, 5).richest(), 3);
        due(room(5, 5, 5).just(2), 19);
        due(room(5, 5, 5).best(0), 5);
        about("23 to 26: a LAW that asks for the number of the LINE alone");
        due(by(room(5, 5, 5, 5), "bars if line > 2").most(), 3);
        due(by(room(5, 5, 5, 5), "bars if line > 2").ways(), 7);
        due(by(room(5, 5, 5, 5), "pays 9 if line = 2").richest(), 1 + 1 + 9 + 1);
        due(by(room(5, 5, 5), "costs 0 if line = 1; costs 9 if line = 0; costs 7 if line = 2").just(3), 16);
    }

    private static void ways() {
        about("25: WAYS (no WORDS: 1).");
        GalleyRoom none = new GalleyRoom();
        due(none.ways(), 1);
        by(none, "bars");
        due(none.ways(), 1);
        due(by(room(5), "bars").ways(), 0);
        due(room(5).ways(), 1);
        due(room(5, 5).ways(), 2);
        due(twelve(2, 1, 60).ways(), 1L << 23);
        due(twelve(20, 10, 11).ways(), 1);
        GalleyRoom whole = room(1, 1, 1, 1, 1, 1, 1, 1, 1, 1, 1, 1);
        due(whole.ways(), 1L << 11);
        whole.terms(3, 22);
        due(whole.ways(), (1L << 11) - 1);
    }

    private static void richest() {
        about("26: RICHEST (no WORDS: 0). NONE (there is none).");
        GalleyRoom none = new GalleyRoom();
        due(none.richest(), 0);
        by(none, "bars; pays 9");
        due(none.richest(), 0);
        due(by(room(5, 5), "pays 0").richest(), 0);
        due(by(room(5, 5), "pays 0-5").richest(), 0);
        due(by(room(5, 5), "bars").richest(), -1);
        due(by(twelve(2, 1, 60), "pays 1000").richest(), 24 * 99);
        due(twelve(2, 1, 60).richest(), 24);
        due(by(room(5, 5, 5), "pays pieces * pieces").richest(), 9);
        due(by(room(5, 5, 5), "pays pieces * pieces; bars if pieces = 3").richest(), 5);
        due(by(room(5, 5, 5), "pays 7 if last = 0; pays 0 if last = 1; costs 100").richest(), 14);
        // Of two LINES "5", "5 5 5" pays 1 + 9, "5 5", "5 5" 4 + 4, "5 5 5", "5" 9 + 1.
        due(by(room(5, 5, 5, 5), "pays pieces * pieces; bars if pieces = 4").richest(), 10);
        due(by(room(5, 5, 5, 5), "pays pieces % 3 * 9; bars if pieces = 4").richest(), 36);
        due(by(room(5, 5, 5, 5), "pays pieces % 3 * 9; bars if pieces = 4 or line > 1").richest(), 36);
        due(by(room(5, 5, 5, 5), "pays pieces / 3 * 9; bars if pieces = 4 or line > 1").richest(), 9);
        due(by(room(5, 5, 5, 5), "pays 9 if pieces = 3 and line = 1; bars if pieces = 4 or line > 1").richest(), 1 + 9);
    }

    private static void narrow() {
        about("27, III: NARROW k 0 .. 24 (no WORDS: 10): the least MEASURE 10 .. 60. NONE (there is none; others).");
        GalleyRoom none = new GalleyRoom();
        due(none.narrow(0), 10);
        due(none.narrow(24), 10);
        for (int k : new int[] {-1, 25, LOWEST, HIGHEST}) due(none.narrow(k), -1);
        by(none, "bars");
        due(none.narrow(0), 10);
        GalleyRoom x = room(9);
        due(x.narrow(0), -1);
        due(x.narrow(1), 10);
        due(x.narrow(24), 10);
        for (int k : new int[] {-1, 25, LOWEST, HIGHEST}) due(x.narrow(k), -1);
        due(room(1).narrow(1), 10);
        due(room(10).narrow(1), 10);
        due(room(11).narrow(1), 11);
        due(room(20, 20, 17).narrow(1), 59);
        due(room(20, 20, 18).narrow(1), 60);
        due(room(20, 20, 19).narrow(1), -1);
        due(x.status(), 0);
        due(by(room(5), "bars").narrow(24), -1);
    }

    private static void narrowAtMost() {
        about("III: by which there is one of k LINES at most");
        GalleyRoom x = room(20, 20, 19);
        due(x.narrow(1), -1);
        due(x.narrow(2), 40);
        due(x.narrow(3), 20);
        due(x.narrow(4), 20);
        due(x.narrow(24), 20);
        due(x.count(16), 30);
        GalleyRoom full = twelve(20, 10, 60);
        due(full.narrow(24), 11);
        // One LINE less: two PARTS in one, "10 10" without and "10 10-" with a hyphen, or a whole WORD.
        due(full.narrow(23), 20);
        due(full.narrow(3), -1);
        due(by(room(5, 5), "bars if line > 0").narrow(2), 11);
    }

    private static void narrowByTheLaw() {
        about("III: NARROW: the LAW is asked by that MEASURE");
        GalleyRoom x = by(room(5, 5), "bars if not short = 0 and last = 0");
        due(x.narrow(2), 11);
        due(x.narrow(1), 11);
        GalleyRoom y = by(room(12), "bars if short < 48");
        due(y.narrow(1), 60);
        by(y, "bars if short < 49");
        due(y.narrow(1), -1);
        by(y, "bars if not short = 0");
        due(y.narrow(1), 12);
        GalleyRoom z = by(room(1), "bars if short < 9");
        due(z.narrow(1), 10);
        by(z, "bars if short < 10");
        due(z.narrow(1), 11);
        by(z, "costs 5; pays 5; bars if 1 = 2; bars if short < 11");
        due(z.narrow(1), 12);
        by(z, "bars if short < 12; costs 5; costs 1 / 0; bars if 1 / 0 = 1");
        due(z.narrow(1), 13);
        due(z.count(16), 30);
    }

    private static void leaveOut() {
        about("28: LEAVE OUT: the WORD (what 0), what the BEST COSTS without it (1).");
        GalleyRoom x = four();
        due(x.leaveOut(0), 2);
        due(x.leaveOut(1), 1);
        for (int what : new int[] {-1, 2, LOWEST, HIGHEST}) due(x.leaveOut(what), -1);
        due(x.status(), 0);
        due(x.count(0), 4);
        due(x.of(2, 0), 12);
        due(x.best(-1), 1);
        GalleyRoom first = room(20, 5, 5);
        first.terms(3, 11);
        due(first.leaveOut(0), 0);
        due(first.leaveOut(1), 0);
        GalleyRoom last = room(1, 1, 1, 1, 1, 1, 1, 1, 1, 1, 1, 20);
        // Nine of eleven are 17 wide, ten are 19.
        last.terms(3, 18);
        due(last.leaveOut(0), 11);
        due(last.leaveOut(1), 1);
        last.terms(3, 19);
        due(last.leaveOut(0), 11);
        due(last.leaveOut(1), 0);
    }

    private static void leaveOutTheLowest() {
        about("III: LEAVE OUT: the BEST COSTS least; the lowest");
        GalleyRoom x = room(5, 5, 5);
        due(x.leaveOut(0), 0);
        due(x.leaveOut(1), 0);
        GalleyRoom y = room(9, 6, 4, 4);
        y.terms(3, 10);
        // Without WORD 0: "6", "4 4" or "6", "4", "4": 4; without 1: "9", "4 4": 1; without 2 or 3: "9", "6", "4": 5.
        due(y.leaveOut(0), 1);
        due(y.leaveOut(1), 1);
        GalleyRoom z = room(9, 9, 9, 9);
        z.terms(3, 10);
        due(z.leaveOut(0), 0);
        due(z.leaveOut(1), 2);
        z.swell(2, 10);
        due(z.leaveOut(0), 0);
        due(z.leaveOut(1), 1);
        z.swell(3, 8);
        z.swell(0, 10);
        due(z.leaveOut(0), 1);
        due(z.leaveOut(1), 0);
    }

    private static void leaveOutOfFew() {
        about("28: NONE (without none there is one; no WORDS)");
        GalleyRoom none = new GalleyRoom();
        due(none.leaveOut(0), -1);
        due(none.leaveOut(1), -1);
        GalleyRoom one = room(20);
        one.terms(3, 10);
        due(one.best(-1), -1);
        due(one.leaveOut(0), 0);
        due(one.leaveOut(1), 0);
        GalleyRoom two = room(20, 20);
        two.terms(3, 19);
        due(two.leaveOut(0), -1);
        due(two.leaveOut(1), -1);
        two.swell(1, 19);
        due(two.leaveOut(0), 0);
        due(two.leaveOut(1), 0);
        two.swell(0, 19);
        two.swell(1, 20);
        due(two.leaveOut(0), 1);
        GalleyRoom barred = by(room(5, 5), "bars");
        due(barred.leaveOut(0), -1);
        due(barred.leaveOut(1), -1);
    }

    private static void leaveOutMovesUp() {
        about("III: LEAVE OUT: (those behind it moving up, MEASURE as it is)");
        GalleyRoom x = new GalleyRoom();
        x.word(20, 0, 0);
        x.word(12, 6, 3);
        x.terms(3, 10);
        // "6-", "6"
        due(x.leaveOut(0), 0);
        due(x.leaveOut(1), 3);
        by(x, "costs kind * 100 + line * 10 + last");
        due(x.leaveOut(0), 0);
        due(x.leaveOut(1), 300 + 311);
        GalleyRoom y = new GalleyRoom();
        for (int kind = 0; kind < 4; kind++) y.word(9, 0, kind);
        y.terms(3, 10);
        by(y, "costs [3 - kind] * 100 + line * 10 + last");
        due(y.leaveOut(0), 0);
        due(y.leaveOut(1), 200 + 100 + 0 + 30 + 1);
        by(y, "costs kind * 100 + line * 10 + last");
        due(y.leaveOut(0), 3);
        due(y.leaveOut(1), 0 + 100 + 200 + 30 + 1);
    }

    private static void river() {
        about("29, III: A RIVER: the most LINES (no spaces at all: 0)");
        due(new GalleyRoom().river(), 0);
        due(room(5).river(), 0);
        due(room(5, 5).river(), 1);
        GalleyRoom x = room(5, 5, 5);
        x.stop(0);
        due(x.river(), 1);
        x.stop(1);
        due(x.river(), 0);
        GalleyRoom six = room(4, 4, 4, 4, 4, 4, 4, 4, 4, 4, 4, 4);
        for (int w = 1; w < 11; w += 2) six.stop(w);
        due(six.count(1), 6);
        due(six.river(), 6);
        GalleyRoom eleven = twelve(4, 2, 30);
        for (int w = 0; w < 12; w++) eleven.split(w);
        due(eleven.count(1), 13);
        due(eleven.river(), 11);
    }

    private static void riverWithin1() {
        about("III: so that each is AT within 1 of where that of the LINE ahead is AT");
        for (int wide = 1; wide <= 20; wide++) {
            GalleyRoom x = room(9, 3, wide, 3);
            x.stop(1);
            due(x.river(), wide >= 8 && wide <= 10 ? 2 : 1);
        }
        int[][] rows = {{9, 9, 9, 3}, {9, 10, 11, 3}, {9, 8, 7, 3}, {9, 10, 9, 3}, {9, 11, 9, 1}, {9, 7, 9, 1}, {9, 10, 12, 2}, {9, 11, 12, 2}, {1, 2, 1, 3}, {1, 1, 2, 3}};
        for (int[] r : rows) {
            GalleyRoom x = room(r[0], 3, r[1], 3, r[2], 3);
            x.stop(1);
            x.stop(3);
            due(x.river(), r[3]);
        }
    }

    private static void riverAt() {
        about("III: it is AT the WIDTH of all that is ahead of it there");
        for (int wide = 1; wide <= 20; wide++) {
            // Spaces AT 4 and, with the first one ahead, AT 4 + 1 + 5.
            GalleyRoom x = room(4, 5, 1, wide, 1);
            x.stop(2);
            due(x.river(), wide >= 3 && wide <= 5 || wide >= 9 && wide <= 11 ? 2 : 1);
        }
        GalleyRoom far = twelve(20, 1, 60);
        due(far.river(), 1);
        far.stop(5);
        due(far.river(), 2);
        // 20 and 41, 62, .. against 2, 23, 44, ..: three apart, or two
        far.swell(6, 2);
        due(far.river(), 1);
        far.swell(6, 19);
        due(far.river(), 2);
        far.swell(6, 18);
        due(far.river(), 1);
    }

    private static void riverOneBehindTheOther() {
        about("III: the most LINES, one behind the other, of each of which a space can be told");
        GalleyRoom x = room(3, 3, 9, 3, 3, 3, 3);
        x.stop(1);
        x.stop(2);
        x.stop(4);
        // "3 3", "9", "3 3", "3 3"
        due(x.river(), 2);
        x.stop(2);
        // "3 3", "9 3 3", "3 3"
        due(x.river(), 1);
        x.swell(2, 2);
        due(x.river(), 3);
        // One space is told of a LINE: the first one's 4 and the third one's 11 are both near one of the second's.
        GalleyRoom y = room(3, 1, 4, 5, 1, 11, 1);
        y.stop(1);
        y.stop(4);
        due(y.river(), 2);
        y.swell(5, 5);
        due(y.river(), 3);
    }

    private static void riverFittingOrNot() {
        about("III: (Of the SETTING, FITTING or not:)");
        GalleyRoom x = room(9, 9, 9, 9);
        x.stop(1);
        x.terms(3, 19);
        due(x.count(2), 2);
        due(x.river(), 2);
        x.terms(3, 18);
        due(x.count(2), 0);
        due(x.river(), 2);
        by(x, "bars");
        due(x.river(), 2);
        x.seen(0, 19);
        due(x.canBe(), 3);
        due(x.look(1), 2);
    }

    private static void riverOfParts() {
        about("III: A space is the 1 between two PIECES of a LINE");
        GalleyRoom x = new GalleyRoom();
        x.word(5, 0, 0);
        x.word(9, 4, 0);
        x.word(3, 0, 0);
        x.split(1);
        due(x.river(), 2);
        x.swell(1, 10);
        due(x.river(), 2);
        x.swell(1, 11);
        due(x.river(), 1);
        x.swell(0, 6);
        due(x.river(), 2);
        x.stop(1);
        due(x.river(), 1);
        // The hyphen is no piece, and no space is ahead of it.
        GalleyRoom y = new GalleyRoom();
        y.word(9, 4, 0);
        y.split(0);
        due(y.river(), 0);
    }

    private static void compare() {
        about("35: COMPARED (no WORDS: 0). NONE (no such LAW; there is no such SETTING).");
        GalleyRoom x = four();
        due(x.compare(0), -1);
        due(x.compare(-1), 1);
        law(x, "costs 5");
        law(x, "bars");
        due(x.compare(0), 10);
        due(x.compare(1), -1);
        for (int law : new int[] {2, 6, -2, LOWEST, HIGHEST}) due(x.compare(law), -1);
        due(x.status(), 0);
        due(x.count(8), 0);
        for (int i = 2; i < 6; i++) law(x, "costs " + i);
        due(x.compare(5), 10);
        due(x.compare(6), -1);
        GalleyRoom none = new GalleyRoom();
        due(none.compare(-1), 0);
        due(none.compare(0), -1);
        due(none.compare(-2), -1);
        law(none, "bars");
        due(none.compare(0), 0);
        due(none.compare(1), -1);
        due(noSetting().compare(-1), -1);
    }

    private static void compareInPlace() {
        about("III: COMPARED: what the BEST COSTS by a LAW in place of that in FORCE (NONE: none)");
        GalleyRoom x = by(four(), "bars");
        law(x, "costs 5");
        due(x.best(-1), -1);
        due(x.compare(0), -1);
        due(x.compare(1), 10);
        due(x.compare(-1), 1);
        due(x.count(12), 0);
        due(x.best(-1), -1);
        x.force(1);
        due(x.best(-1), 10);
        due(x.compare(0), -1);
        due(x.compare(-1), 1);
    }
}
