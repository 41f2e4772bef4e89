/** Each sentence on what was SEEN, FEW, WEEKS, IMAGES and what is counted (Terms I, III, IV; promises 30 to 34, 36 to 41): inside its boundary and outside. */
public final class EdgesOfTheRestTest extends Bench {
    public static void main(String[] args) {
        seen();
        seenSix();
        forget();
        canBe();
        canBeOfNumbers();
        look();
        lookTheLowest();
        few();
        fewCut();
        fewOfAll();
        weeks();
        weeksWithoutWords();
        weeksAtTheLastProof();
        weeksDraws();
        weeksWhateverComes();
        weeksOnPaper();
        drawn();
        drawnOfTheLatest();
        images();
        back();
        imagesKeep();
        imagesDoNotKeep();
        imagesStay();
        imagesOfLaws();
        counts();
        countsOfRefused();
        countsNotKept();
        status();
        statusOfEach();
        statusOfOthers();
        calls512();
        finish();
    }

    /** "10", "4-", "4", "12 5" in 20: widths 10, 5, 4, 18, costs 10, 15, 16, 0. */
    private static GalleyRoom inFourLines() {
        GalleyRoom x = four();
        x.stop(0);
        x.stop(1);
        x.split(1);
        return x;
    }

    // ---- SEEN

    private static void seen() {
        about("30: SEEN: how often there was. -1 (a FACT 0 .. 3, n 0 .. 999). It leaves what can be undone.");
        GalleyRoom x = room(5, 5);
        x.stop(0);
        for (int fact : new int[] {-1, 4, LOWEST, HIGHEST}) {
            due(x.seen(fact, 0), -1);
            due(x.status(), -1);
        }
        for (int n : new int[] {-1, 1000, LOWEST, HIGHEST}) {
            due(x.seen(0, n), -1);
            due(x.status(), -1);
        }
        due(x.count(7), 8);
        due(x.count(3), 0);
        due(x.seen(0, 0), 1);
        due(x.status(), 0);
        due(x.seen(0, 999), 2);
        due(x.seen(3, 0), 3);
        due(x.seen(3, 999), 4);
        due(x.count(3), 4);
        due(x.count(5), 1);
        due(x.undo(), 0);
    }

    private static void seenSix() {
        about("I, 30: SEEN, 6 at most. -5.");
        GalleyRoom x = inFourLines();
        for (int i = 1; i <= 6; i++) due(x.seen(0, 10), i);
        due(x.seen(0, 11), -5);
        due(x.status(), -5);
        due(x.count(10), 1);
        due(x.count(3), 6);
        due(x.canBe(), 1);
        due(x.forget(), 6);
        for (int i = 1; i <= 5; i++) due(x.seen(0, 10), i);
        due(x.seen(0, 11), 6);
        due(x.canBe(), 0);
        due(x.seen(0, 11), -5);
    }

    private static void forget() {
        about("31: SEEN is nothing then: how often there was.");
        GalleyRoom x = inFourLines();
        due(x.forget(), 0);
        x.seen(0, 99);
        due(x.canBe(), 0);
        due(x.forget(), 1);
        due(x.canBe(), 15);
        due(x.count(3), 0);
        due(x.forget(), 0);
        for (int i = 0; i < 7; i++) x.seen(0, 10);
        due(x.status(), -5);
        due(x.forget(), 6);
        due(x.status(), -5);
        due(x.seen(0, 5), 1);
        due(x.canBe(), 2);
        due(x.count(5), 3);
    }

    private static void canBe() {
        about("III, 32: IT CAN BE: LINES that are so at all that was SEEN, as bits of LINES");
        int[] width = {10, 5, 4, 18};
        int[] costs = {10, 15, 16, 0};
        int[] pieces = {1, 1, 1, 2};
        int[][] facts = {width, costs, pieces, pieces};
        for (int fact = 0; fact < 4; fact++) {
            for (int n = 0; n <= 19; n++) {
                int bits = 0;
                for (int i = 0; i < 4; i++) if (facts[fact][i] == n) bits |= 1 << i;
                GalleyRoom x = inFourLines();
                x.seen(fact, n);
                due(x.canBe(), bits);
            }
        }
        GalleyRoom x = inFourLines();
        due(x.canBe(), 15);
        x.seen(3, 1);
        due(x.canBe(), 7);
        x.seen(1, 16);
        due(x.canBe(), 4);
        x.seen(0, 5);
        due(x.canBe(), 0);
        due(new GalleyRoom().canBe(), 0);
        GalleyRoom full = by(twelve(4, 2, 30), "costs line; pays 98 + line");
        for (int w = 0; w < 12; w++) full.split(w);
        for (int w = 0; w < 11; w++) full.stop(w);
        due(full.canBe(), (1 << 24) - 1);
        full.seen(2, 99);
        due(full.canBe(), (1 << 24) - 2);
        full.seen(1, 23);
        due(full.canBe(), 1 << 23);
        full.pass();
        due(full.canBe(), 1 << 23);
        full.stop(0);
        due(full.canBe(), 0);
    }

    private static void canBeOfNumbers() {
        about("I: a FACT was n, 0 and 999, too");
        GalleyRoom x = by(room(5, 5), "costs 1000 * line; pays 0");
        x.stop(0);
        x.seen(1, 999);
        due(x.canBe(), 2);
        x.seen(2, 0);
        due(x.canBe(), 2);
        x.seen(1, 0);
        due(x.canBe(), 0);
        x.forget();
        x.seen(1, 0);
        due(x.canBe(), 1);
    }

    private static void look() {
        about("33: To LOOK at: the FACT (what 0), how many LINES are left at most (1). NONE (it can be none).");
        GalleyRoom x = inFourLines();
        due(x.look(0), 0);
        due(x.look(1), 1);
        for (int what : new int[] {-1, 2, LOWEST, HIGHEST}) due(x.look(what), -1);
        x.seen(0, 99);
        due(x.look(0), -1);
        due(x.look(1), -1);
        due(x.status(), 0);
        GalleyRoom none = new GalleyRoom();
        due(none.look(0), -1);
        due(none.look(1), -1);
        due(room(5).look(0), 0);
        due(room(5).look(1), 1);
    }

    private static GalleyRoom fiveLines(String law) {
        GalleyRoom x = by(room(5, 5, 5, 5, 5), law);
        for (int w = 0; w < 4; w++) x.stop(w);
        return x;
    }

    private static void lookTheLowest() {
        about("III: the FACT by which, of these, the most that are alike are as few as can be; the lowest");
        due(fiveLines("costs 0; pays 0").look(0), 0);
        due(fiveLines("costs 0; pays 0").look(1), 5);
        due(fiveLines("costs line; pays line").look(0), 1);
        due(fiveLines("costs line; pays line").look(1), 1);
        due(fiveLines("costs 0; pays line").look(0), 2);
        due(fiveLines("costs line / 2; pays line").look(0), 2);
        due(fiveLines("costs line / 2; pays line / 2").look(0), 1);
        due(fiveLines("costs line / 2; pays line / 2").look(1), 2);
        due(fiveLines("costs line / 3; pays line / 2").look(0), 2);
        // 0 0 0 1 2 against 0 0 1 1 1: three alike in both, more values do not matter
        GalleyRoom x = fiveLines("costs 0; costs line - 2 if line > 2; pays 0; pays 1 if line > 1");
        due(x.look(0), 1);
        due(x.look(1), 3);
        GalleyRoom y = room(5, 5, 5);
        y.stop(0);
        by(y, "costs 0; pays 0");
        due(y.look(0), 0);
        GalleyRoom z = new GalleyRoom();
        z.word(11, 0, 0);
        z.word(5, 0, 0);
        z.word(5, 0, 0);
        z.stop(0);
        by(z, "costs 0; pays 0");
        due(z.line(0, 1), z.line(1, 1));
        due(z.look(0), 3);
        due(z.look(1), 1);
        about("III: of these: those that it can be alone");
        GalleyRoom some = fiveLines("costs line / 3; pays line");
        some.seen(1, 0);
        due(some.canBe(), 7);
        due(some.look(0), 2);
        due(some.look(1), 1);
        some.seen(2, 1);
        due(some.canBe(), 2);
        due(some.look(0), 0);
        due(some.look(1), 1);
        some = fiveLines("costs line % 3; pays line / 2");
        due(some.look(0), 1);
        due(some.look(1), 2);
        some.seen(1, 1);
        due(some.canBe(), 18);
        due(some.look(0), 2);
        due(some.look(1), 1);
    }

    // ---- FEW

    private static void few() {
        about("34: FEW, k 1 .. 20, n 0 .. 99. NONE.");
        GalleyRoom x = new GalleyRoom();
        x.terms(1, 0);
        for (int k : new int[] {0, -1, 21, LOWEST, HIGHEST}) due(x.few(k, 5), -1);
        for (int n : new int[] {-1, 100, LOWEST, HIGHEST}) due(x.few(5, n), -1);
        for (int k : new int[] {1, 20}) for (int n : new int[] {0, 99}) due(x.few(k, n), 1000000000000L);
        due(x.status(), 0);
        due(x.count(7), 0);
        x.terms(1, 10);
        due(x.few(1, 0), 1000000000000L);
        due(x.few(1, 1), 0);
        due(x.few(2, 1), 1000000000000L);
        due(x.few(19, 19), 0);
        due(x.few(20, 19), 1000000000000L);
        due(x.few(20, 20), 0);
        due(x.few(20, 99), 0);
    }

    private static void fewCut() {
        about("III: each part times the rest by ten and times SLIPS by ten (one more), both cut");
        GalleyRoom x = new GalleyRoom();
        x.terms(1, 5);
        // 1,000,000,000,000 by 2 twelve times is 244,140,625: the thirteenth time half a part is cut.
        due(x.few(1, 12), 244140625L);
        due(x.few(1, 13), 122070312L);
        due(x.few(1, 14), 61035156L);
        due(x.few(2, 12), 13 * 244140625L);
        due(x.few(2, 13), 122070312L + 12 * 244140625L / 2 + 122070312L);
        due(x.few(3, 13), 122070312L + 12 * 244140625L / 2 + 122070312L + 66 * 244140625L / 2 + 12 * 244140625L / 2);
        x.terms(1, 1);
        due(x.few(1, 1), 900000000000L);
        due(x.few(2, 1), 1000000000000L);
        due(x.few(1, 2), 810000000000L);
        due(x.few(2, 2), 990000000000L);
        x.terms(1, 9);
        due(x.few(1, 12), 1);
        due(x.few(1, 13), 0);
        due(x.few(2, 12), 1 + 12 * 9);
        due(x.few(2, 13), 12 * 9 / 10);
        x.terms(1, 3);
        due(x.few(2, 2), 490000000000L + 420000000000L);
    }

    private static void fewOfAll() {
        about("III: of n words fewer than k do: of those below k all together");
        for (int slips = 0; slips <= 10; slips++) {
            GalleyRoom x = new GalleyRoom();
            x.terms(1, slips);
            for (int n : new int[] {0, 1, 7, 19, 20, 40, 99}) {
                long[] parts = new long[101];
                parts[0] = 1000000000000L;
                for (int word = 0; word < n; word++) {
                    long[] next = new long[101];
                    for (int did = 0; did <= word; did++) {
                        next[did] += parts[did] * (10 - slips) / 10;
                        next[did + 1] += parts[did] * slips / 10;
                    }
                    parts = next;
                }
                long below = 0;
                for (int k = 1; k <= 20; k++) {
                    below += parts[k - 1];
                    if (k == 1 || k == 2 || k == 19 || k == 20) due(x.few(k, n), below);
                }
            }
        }
    }

    // ---- WEEKS

    private static void weeks() {
        about("IV, 36: WEEKS with a SEED (0 .. 1,000,000), n 1 .. 60: how many LINES FITTED in all PROOFS together. -1");
        GalleyRoom x = room(5);
        for (int seed : new int[] {-1, 1000001, 1000003, LOWEST, HIGHEST}) {
            due(x.weeks(seed, 1), -1);
            due(x.status(), -1);
        }
        for (int n : new int[] {0, -1, 61, LOWEST, HIGHEST}) {
            due(x.weeks(0, n), -1);
            due(x.status(), -1);
        }
        due(x.count(7), 10);
        due(x.drawn(0, 0), -1);
        // One WORD that can't be split: all that can be is that it swells, and it fits whatever it is.
        for (int seed : new int[] {0, 1, 999999, 1000000}) {
            due(x.weeks(seed, 1), 1);
            due(x.status(), 0);
            due(x.weeks(seed, 59), 59);
            due(x.weeks(seed, 60), 60);
        }
        due(by(room(5), "bars").weeks(0, 60), 0);
        due(by(room(5), "bars if proof < 59").weeks(0, 60), 1);
        due(by(room(5), "bars if proof > 0").weeks(0, 60), 1);
    }

    private static void weeksWithoutWords() {
        about("36: -3 there are no WORDS");
        GalleyRoom x = new GalleyRoom();
        due(x.weeks(0, 1), -3);
        due(x.status(), -3);
        due(x.weeks(1000000, 60), -3);
        due(x.count(9), 2);
        due(x.drawn(0, 0), -1);
        x.image(0);
        x.word(5, 0, 0);
        due(x.weeks(0, 1), 1);
        due(x.drawn(0, 0), 5);
        x.back(0);
        due(x.weeks(0, 1), -3);
        due(x.drawn(0, 0), 5);
    }

    private static void weeksAtTheLastProof() {
        about("IV: Each time (at PROOF 999 it ends)");
        GalleyRoom x = room(5);
        int[][] rows = {{939, 60}, {940, 59}, {941, 58}, {997, 2}, {998, 1}, {999, 0}};
        for (int[] r : rows) {
            x.terms(0, r[0]);
            due(x.weeks(7, 60), r[1]);
            due(x.status(), 0);
            due(x.count(13), r[0]);
        }
        GalleyRoom y = four();
        y.terms(0, 999);
        due(y.weeks(0, 60), 0);
        due(y.drawn(1, 1), 0);
        y.terms(0, 998);
        due(y.weeks(0, 60), 2);
        due(y.drawn(1, 1), 1);
    }

    private static void weeksDraws() {
        about("IV: a DRAW of m: s becomes (s times 1103 and 12345) modulo 1,000,003, it is s modulo m");
        // SEED 0: 12345, 628841, 621889: WORD 1 of 4, at 1: it is ended after it.
        GalleyRoom x = four();
        due(x.weeks(0, 1), 2);
        int[][] drawn = {{10, 0, 0}, {8, 1, 0}, {12, 0, 0}, {5, 1, 0}};
        for (int w = 0; w < 4; w++) for (int what = 0; what < 3; what++) due(x.drawn(w, what), drawn[w][what]);
        // Then 953857, 113460, 158350: WORD 1, at 2: it is SPLIT.
        due(x.weeks(0, 2), 2 + 3);
        due(x.drawn(1, 1), 1);
        due(x.drawn(1, 2), 1);
        // SEED 1: 13448, 845447, 537590: WORD 0 at 2, which can't be SPLIT; 972339, 499046, 458433: WORD 3 at 1, the last one.
        x = four();
        due(x.weeks(1, 2), 0);
        for (int w = 0; w < 4; w++) due(x.drawn(w, 2), 0);
        for (int w = 0; w < 4; w++) due(x.drawn(w, 1), w == 3 ? 1 : 0);
        // SEED 1,000,000: 9036, 979026, 874786: WORD 0 at 2; 898411, 956708, 258104: WORD 3 at 0.
        due(x.weeks(1000000, 2), 0);
        for (int w = 0; w < 4; w++) due(x.drawn(w, 1), w == 3 ? 1 : 0);
        // Of 12 WORDS SEED 0 tells WORD 9 of 12345.
        x = twelve(5, 2, 60);
        x.weeks(0, 1);
        for (int w = 0; w < 12; w++) due(x.drawn(w, 1), w == 9 || w == 11 ? 1 : 0);
    }

    /** The same draws, done on a room itself: what can't be is REFUSED there, and the next draws come all the same. */
    private static void weeksWhateverComes() {
        about("IV: DRAWS of WORDS, of 20, of 4, whatever comes of them; each if it can be; then the PROOF passes");
        for (int seed : new int[] {0, 1, 2, 3, 77, 4096, 314159, 999999, 1000000}) {
            for (int words : new int[] {1, 3, 4, 12}) {
                GalleyRoom x = words == 4 ? four() : new GalleyRoom();
                for (int i = x.count(0); i < words; i++) x.word(4 + i, i % 3 * 2, i % 4);
                by(x, "bars if proof % 3 = line");
                int told = x.weeks(seed, 60);
                long s = seed;
                int fitted = 0;
                for (int i = 0; i < 60; i++) {
                    s = (s * 1103 + 12345) % 1000003;
                    int word = (int) (s % words);
                    s = (s * 1103 + 12345) % 1000003;
                    int wide = (int) (s % 20) + 1;
                    s = (s * 1103 + 12345) % 1000003;
                    if (s % 4 < 2) x.stop(word);
                    else if (s % 4 == 2) x.split(word);
                    else x.swell(word, wide);
                    fitted += x.pass();
                }
                due(told, fitted);
                for (int w = 0; w < words; w++) for (int what = 0; what < 3; what++) due(x.drawn(w, what), x.of(w, new int[] {0, 3, 4}[what]));
            }
        }
    }

    private static void weeksOnPaper() {
        about("IV: on paper");
        GalleyRoom x = four();
        x.stop(0);
        x.seen(0, 10);
        for (int seed = 0; seed < 9; seed++) x.weeks(seed, 60);
        int[] wide = {10, 8, 12, 5};
        for (int w = 0; w < 4; w++) {
            due(x.of(w, 0), wide[w]);
            due(x.of(w, 3), w == 0 || w == 3 ? 1 : 0);
            due(x.of(w, 4), 0);
        }
        due(x.count(13), 0);
        due(x.count(5), 1);
        due(x.count(3), 1);
        due(x.undo(), 0);
    }

    private static void drawn() {
        about("37: how WIDE it is (what 0), whether a LINE ENDS after it (1), whether it is SPLIT (2). NONE.");
        GalleyRoom x = four();
        for (int what = 0; what < 3; what++) due(x.drawn(0, what), -1);
        x.weeks(0, 1);
        due(x.drawn(0, 0), 10);
        due(x.drawn(3, 1), 1);
        due(x.drawn(3, 2), 0);
        for (int what : new int[] {-1, 3, 4, LOWEST, HIGHEST}) due(x.drawn(0, what), -1);
        for (int word : new int[] {-1, 4, 12, LOWEST, HIGHEST}) for (int what = 0; what < 3; what++) due(x.drawn(word, what), -1);
        due(x.status(), 0);
        due(x.count(8), 0);
    }

    private static void drawnOfTheLatest() {
        about("36, 37: kept as the latest; Behind the latest WEEKS of a WORD");
        GalleyRoom x = four();
        x.weeks(0, 1);
        due(x.drawn(1, 1), 1);
        due(x.weeks(0, 0), -1);
        due(x.weeks(-1, 1), -1);
        due(x.drawn(1, 1), 1);
        x.stop(0);
        x.swell(3, 9);
        x.word(7, 0, 0);
        due(x.drawn(0, 1), 0);
        due(x.drawn(3, 0), 5);
        due(x.drawn(3, 1), 1);
        due(x.drawn(4, 0), -1);
        x.terms(0, 999);
        due(x.weeks(0, 1), 0);
        due(x.drawn(1, 1), 0);
        due(x.drawn(0, 1), 1);
        due(x.drawn(3, 0), 9);
        due(x.drawn(3, 1), 0);
        due(x.drawn(4, 0), 7);
    }

    // ---- IMAGES

    private static void images() {
        about("38, IV: IMAGES 0, 1: IMAGE k is kept: 0; -1.");
        GalleyRoom x = four();
        for (int k : new int[] {-1, 2, LOWEST, HIGHEST}) {
            due(x.image(k), -1);
            due(x.status(), -1);
        }
        due(x.count(7), 4);
        due(x.back(0), -2);
        due(x.back(1), -2);
        due(x.image(0), 0);
        due(x.status(), 0);
        due(x.back(1), -2);
        due(x.image(1), 0);
        due(x.back(1), 0);
        due(x.back(0), 0);
    }

    private static void back() {
        about("39: BACK to IMAGE k: 0. -1; -2 it was not kept.");
        GalleyRoom x = room(5, 5);
        for (int k : new int[] {-1, 2, LOWEST, HIGHEST}) {
            due(x.back(k), -1);
            due(x.status(), -1);
        }
        due(x.back(0), -2);
        due(x.status(), -2);
        x.image(1);
        due(x.back(0), -2);
        due(x.count(7), 4);
        due(x.count(8), 2);
        due(x.back(1), 0);
        due(x.status(), 0);
        x.stop(0);
        due(x.back(0), -2);
        due(x.of(0, 3), 1);
        due(x.count(5), 1);
        due(x.back(1), 0);
        due(x.of(0, 3), 0);
        GalleyRoom empty = new GalleyRoom();
        empty.image(0);
        empty.word(5, 2, 1);
        empty.split(0);
        due(empty.back(0), 0);
        due(empty.count(0), 0);
        due(empty.count(1), 0);
        due(empty.word(6, 2, 1), 0);
        due(empty.of(0, 4), 0);
    }

    private static void imagesKeep() {
        about("IV: BACK to one all that it keeps is as it was then");
        GalleyRoom x = by(four(), "costs 1");
        law(x, "costs 2");
        for (int what = 0; what < 4; what++) x.terms(what, 3 + what * 4 - (what == 2 ? 3 : 0));
        x.stop(1);
        x.split(2);
        x.swell(0, 11);
        x.pass();
        x.seen(1, 1);
        x.seen(3, 2);
        int[] counts = {4, 3, 2, 2, 2, 0, 0};
        due(x.image(0), 0);
        law(x, "costs 3");
        x.force(2);
        x.forget();
        x.seen(2, 2);
        for (int what = 0; what < 4; what++) x.terms(what, what == 3 ? 60 : 1);
        x.word(7, 3, 3);
        x.stop(0);
        x.stop(1);
        x.split(1);
        x.split(2);
        x.swell(0, 12);
        x.swell(3, 6);
        due(x.back(0), 0);
        for (int i = 0; i < counts.length; i++) due(x.count(i), counts[i]);
        int[] more = {0, 4, 7, 8, 15};
        for (int i = 0; i < more.length; i++) due(x.count(12 + i), more[i]);
        int[][] of = {{11, 0, 0, 0, 0}, {8, 4, 1, 1, 0}, {12, 6, 2, 0, 1}, {5, 0, 3, 1, 0}};
        for (int w = 0; w < 4; w++) for (int what = 0; what < 5; what++) due(x.of(w, what), of[w][what]);
        due(x.of(4, 0), -1);
        due(x.line(0, 3), 1);
        // SEEN: COSTS 1, PIECES 2 of "11 8", "6-", "6 5"
        due(x.canBe(), 5);
        due(x.force(2), -2);
        // "11", "8", "12", "5" in 15
        due(x.compare(1), 4 * 2);
    }

    private static void imagesDoNotKeep() {
        about("IV: all but the TAPE, FAULT, how many were TURNED, where ORDERS stopped, what can be undone (nothing), the latest WEEKS");
        GalleyRoom x = four();
        x.stop(0);
        x.weeks(0, 1);
        x.image(0);
        due(x.count(5), 1);
        type(x, "\0\0\0\0");
        x.row();
        law(x, "costs");
        orders(x, "pass;end 3");
        law(x, "costs 1 1");
        x.weeks(0, 2);
        x.stop(2);
        type(x, "bars");
        due(x.back(0), 0);
        due(x.turned(), 2);
        due(x.fault(), 8);
        due(x.stopped(), 1);
        due(x.drawn(1, 2), 1);
        due(x.count(5), 0);
        due(x.undo(), -3);
        due(x.count(6), 4);
        due(x.law(), 0);
        type(x, "bars");
        x.image(1);
        x.end(2);
        x.back(1);
        due(x.count(6), 2);
    }

    private static void imagesStay() {
        about("IV: (IMAGES stay)");
        GalleyRoom x = room(5, 5);
        x.image(0);
        x.stop(0);
        x.image(1);
        x.word(6, 0, 0);
        for (int i = 0; i < 3; i++) {
            due(x.back(0), 0);
            due(x.of(0, 3), 0);
            x.swell(0, 9);
            x.pass();
            due(x.back(1), 0);
            due(x.of(0, 3), 1);
            due(x.of(0, 0), 5);
            due(x.count(0), 2);
            due(x.count(13), 0);
            x.swell(1, 9);
            x.stop(0);
        }
        x.image(0);
        due(x.back(1), 0);
        due(x.of(1, 0), 5);
        due(x.back(0), 0);
        due(x.of(1, 0), 9);
        due(x.of(0, 3), 0);
    }

    private static void imagesOfLaws() {
        about("IV: LAWS are kept by IMAGES");
        GalleyRoom x = room(5, 5);
        x.stop(0);
        law(x, "costs 1");
        x.image(0);
        for (int i = 1; i < 6; i++) law(x, "costs " + (i + 1));
        due(law(x, "costs 7"), -5);
        x.force(5);
        x.image(1);
        x.back(0);
        due(x.count(4), 1);
        due(x.count(12), -1);
        due(law(x, "costs 9"), 1);
        due(x.force(2), -2);
        due(x.force(1), -1);
        due(x.line(0, 3), 9);
        x.back(1);
        due(x.count(4), 6);
        due(x.count(12), 5);
        due(x.line(0, 3), 6);
        due(x.force(1), 5);
        due(x.line(0, 3), 2);
    }

    // ---- what is counted

    private static void counts() {
        about("40: 0 WORDS .. 13 .. 16 TERMS 0 .. 3. NONE for others.");
        GalleyRoom x = by(inFourLines(), "bars if line = 3");
        law(x, "costs 1");
        x.seen(0, 1);
        x.seen(0, 1);
        x.seen(0, 1);
        type(x, "bytes");
        int[] told = {4, 4, 3, 3, 2, 3, 5, 0, 0, 0, 0, 0, 0, 0, 1, 0, 20};
        for (int what = 0; what < told.length; what++) due(x.count(what), told[what]);
        for (int what : new int[] {-1, 17, 18, LOWEST, HIGHEST}) due(x.count(what), -1);
        due(x.status(), 0);
        x.force(1);
        due(x.count(12), 1);
        x.force(-1);
        due(x.count(12), -1);
        x.terms(0, 5);
        x.terms(1, 6);
        x.terms(2, 7);
        x.terms(3, 18);
        int[] terms = {5, 6, 7, 18};
        for (int what = 0; what < 4; what++) due(x.count(13 + what), terms[what]);
        due(x.count(2), 4);
        x.terms(3, 17);
        due(x.count(2), 3);
    }

    private static void countsOfRefused() {
        about("40: 7 .. 11 how many calls were REFUSED by -1, -2, -3, -5, -6");
        GalleyRoom x = twelve(5, 2, 30);
        x.terms(0, 1000);
        int[] one = {1, 0, 0, 0, 0};
        for (int i = 0; i < 5; i++) due(x.count(7 + i), one[i]);
        x.stop(12);
        x.force(3);
        int[] two = {1, 2, 0, 0, 0};
        for (int i = 0; i < 5; i++) due(x.count(7 + i), two[i]);
        x.stop(11);
        x.undo();
        orders(x, "pass; end 11");
        int[] three = {1, 2, 3, 0, 0};
        for (int i = 0; i < 5; i++) due(x.count(7 + i), three[i]);
        for (int i = 0; i < 4; i++) x.word(5, 2, 0);
        int[] four = {1, 2, 3, 4, 0};
        for (int i = 0; i < 5; i++) due(x.count(7 + i), four[i]);
        for (int i = 0; i < 5; i++) x.row();
        int[] five = {1, 2, 3, 4, 5};
        for (int i = 0; i < 5; i++) due(x.count(7 + i), five[i]);
        about("40: what answers NONE is not REFUSED");
        x.of(12, 0);
        x.line(99, 0);
        x.all(3);
        x.end(1);
        x.best(99);
        x.just(25);
        x.narrow(25);
        x.leaveOut(2);
        x.look(2);
        x.few(0, 0);
        x.compare(6);
        x.drawn(12, 0);
        x.count(17);
        for (int i = 0; i < 20; i++) x.feed(0, 0, 0, 0, 0);
        due(x.feed(0, 0, 0, 0, 0), -1);
        for (int i = 0; i < 5; i++) due(x.count(7 + i), five[i]);
    }

    private static void countsNotKept() {
        about("40: (IMAGES do not keep that)");
        GalleyRoom x = room(5);
        x.terms(9, 9);
        x.image(0);
        x.terms(9, 9);
        x.stop(9);
        x.stop(0);
        for (int i = 0; i < 6; i++) x.seen(0, 0);
        x.seen(0, 0);
        x.row();
        x.back(0);
        int[] told = {2, 1, 1, 1, 1};
        for (int i = 0; i < 5; i++) due(x.count(7 + i), told[i]);
        due(x.count(3), 0);
    }

    private static void status() {
        about("41: What the latest call was REFUSED by; 0 if it was not, or ahead of any.");
        GalleyRoom x = new GalleyRoom();
        due(x.status(), 0);
        x.best(0);
        x.end(5);
        due(x.status(), 0);
        x.undo();
        due(x.status(), -3);
        due(x.status(), -3);
        x.word(5, 0, 0);
        due(x.status(), 0);
        x.row();
        due(x.status(), -6);
        x.stop(4);
        due(x.status(), -2);
        x.swell(0, 0);
        due(x.status(), -1);
    }

    private static void statusOfEach() {
        about("41: the latest call of word, terms, row, law, orders, force, stop, split, swell, pass, undo, seen, weeks, image, back");
        GalleyRoom x = four();
        x.image(0);
        // Each is REFUSED behind one that was not, and is not REFUSED behind one that was.
        for (int i = 0; i < 15; i++) {
            x.image(0);
            due(refusedCall(x, i), x.status());
            due(x.status() < 0 ? 1 : 0, 1);
            x.undo();
            x.undo();
            due(x.status(), -3);
            due(goodCall(x, i) >= -1 ? 1 : 0, 1);
            due(x.status(), 0);
        }
        for (int i = 0; i < 15; i++) {
            GalleyRoom y = four();
            y.image(0);
            y.pass();
            due(y.status(), 0);
            int why = refusedCall(y, i);
            due(y.status(), why);
        }
    }

    private static int refusedCall(GalleyRoom x, int which) {
        switch (which) {
            case 0: return x.word(0, 0, 0);
            case 1: return x.terms(4, 0);
            case 2: return x.row();
            case 3: return x.law();
            case 4: return x.orders();
            case 5: return x.force(9);
            case 6: return x.stop(99);
            case 7: return x.split(0);
            case 8: return x.swell(0, 0);
            case 9:
                x.terms(0, 999);
                return x.pass();
            case 10:
                x.back(0);
                return x.undo();
            case 11: return x.seen(4, 0);
            case 12: return x.weeks(-1, 1);
            case 13: return x.image(2);
            default: return x.back(2);
        }
    }

    private static int goodCall(GalleyRoom x, int which) {
        switch (which) {
            case 0: return x.word(5, 0, 0);
            case 1: return x.terms(0, 0);
            case 2:
                type(x, "\0");
                return x.row();
            case 3: return law(x, "costs 1");
            case 4: return orders(x, "pass if 1=2");
            case 5: return x.force(-1);
            case 6: return x.stop(0);
            case 7: return x.split(1);
            case 8: return x.swell(0, x.of(0, 0) % 20 + 1);
            case 9:
                x.back(0);
                x.undo();
                return x.pass();
            case 10:
                x.pass();
                x.stop(99);
                return x.undo();
            case 11: return x.seen(0, 0);
            case 12: return x.weeks(0, 1);
            case 13: return x.image(1);
            default: return x.back(0);
        }
    }

    private static void callOthers(GalleyRoom x) {
        for (int a : new int[] {-2, -1, 0, 1, 99}) {
            x.of(a, 0);
            x.of(0, a);
            x.line(a, 0);
            x.line(0, a);
            x.all(a);
            x.end(a);
            x.best(a);
            x.just(a);
            x.narrow(a);
            x.leaveOut(a);
            x.look(a);
            x.few(a, 1);
            x.few(1, a);
            x.compare(a);
            x.drawn(a, 0);
            x.drawn(0, a);
            x.count(a);
        }
        x.feed(0, 0, 0, 0, 0);
        x.turned();
        x.fault();
        x.stopped();
        x.fewest();
        x.most();
        x.ways();
        x.richest();
        x.river();
        x.forget();
        x.canBe();
    }

    private static void statusOfOthers() {
        about("41: other calls leave what status() tells");
        GalleyRoom x = four();
        callOthers(x);
        due(x.status(), 0);
        x.stop(3);
        callOthers(x);
        due(x.status(), -3);
        x.stop(0);
        callOthers(x);
        due(x.status(), 0);
        for (int what = 7; what <= 11; what++) due(x.count(what), what == 9 ? 1 : 0);
    }

    private static void calls512() {
        about("An object is used for at most 512 calls");
        GalleyRoom x = room(5, 5);
        for (int i = 2; i < 510; i++) due(x.stop(0), (i + 1) % 2);
        due(x.stop(0), 1);
        due(x.count(5), 16);
        GalleyRoom y = room(5, 5);
        for (int i = 2; i < 511; i++) due(y.stop(9), -2);
        due(y.count(8), 509);
    }
}
