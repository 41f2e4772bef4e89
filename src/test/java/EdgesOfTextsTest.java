/** Each sentence on the TAPE, ROWS, TEXTS, LAWS and ORDERS (Terms II, IV; promises 7 to 15): inside its boundary and outside. */
public final class EdgesOfTextsTest extends Bench {
    public static void main(String[] args) {
        feed();
        feedTheHighestFirst();
        end();
        row();
        rowTurned();
        rowEndsWithin();
        rowNoRoom();
        turnedOfTheLatest();
        textOf400();
        lettersAndDigits();
        singleBytes();
        blanks();
        clauses();
        numbers();
        parts();
        partsOfOrders();
        brackets();
        faultAtTheEnd();
        faultOfTheGrammar();
        far();
        farBetween();
        byNought();
        brokenTests();
        onlyIfItMatters();
        sixLaws();
        noneInForce();
        lawEmptiesTheTape();
        blanksAlone();
        faultOfTheLatest();
        lawWords();
        shortBelowNought();
        proofAsItIs();
        clauseHolds();
        costs();
        costsWithout();
        pays();
        bars();
        times();
        wordsOfOrders();
        eachTimeAsked();
        done();
        latest();
        linesAndFit();
        wideAndEnds();
        ordersThatCantBe();
        ordersNotAtAll();
        ordersTold();
        stopped();
        force();
        finish();
    }

    // ---- the TAPE

    private static void feed() {
        about("7: how many it has. NONE, if there would be more than 400.");
        GalleyRoom x = new GalleyRoom();
        for (int i = 1; i <= 19; i++) due(x.feed(0, 0, 0, 0, 0), 20 * i);
        due(x.end(379), 379);
        due(x.feed(0, 0, 0, 0, 0), 399);
        due(x.feed(0, 0, 0, 0, 0), -1);
        due(x.count(6), 399);
        due(x.end(381), 381);
        due(x.feed(0, 0, 0, 0, 0), -1);
        due(x.count(6), 381);
        due(x.end(380), 380);
        due(x.feed(0, 0, 0, 0, 0), 400);
        due(x.feed(0, 0, 0, 0, 0), -1);
        due(x.count(6), 400);
        due(x.status(), 0);
        due(x.count(10), 0);
    }

    private static void feedTheHighestFirst() {
        about("7: Twenty bytes come behind the TAPE, four of each number, the highest first");
        GalleyRoom x = new GalleyRoom();
        x.feed(0x01000102, 0x01020300, 0x02040103, 0x05000014, 0x130114FF);
        due(x.row(), 6);
        due(x.turned(), 1);
        int[][] words = {{1, 0, 1}, {2, 1, 2}, {3, 0, 2}, {4, 1, 3}, {5, 0, 0}, {20, 19, 1}};
        for (int w = 0; w < 6; w++) for (int what = 0; what < 3; what++) due(x.of(w, what), words[w][what]);
        GalleyRoom y = new GalleyRoom();
        y.feed(0x14000000, 0, 0, 0, 0);
        y.end(1);
        y.feed(0x0003FFFF, -1, -1, -1, -1);
        due(y.end(4), 4);
        due(y.row(), 1);
        due(y.of(0, 0), 20);
        due(y.of(0, 2), 3);
        due(y.turned(), 1);
    }

    private static void end() {
        about("8: The TAPE has its first n bytes alone: n. NONE, if it has not so many, or n is below 0.");
        GalleyRoom x = new GalleyRoom();
        due(x.end(0), 0);
        due(x.end(1), -1);
        due(x.end(-1), -1);
        type(x, "\5\0\1\6\0\2");
        due(x.end(7), -1);
        due(x.end(HIGHEST), -1);
        due(x.end(-1), -1);
        due(x.end(LOWEST), -1);
        due(x.count(6), 6);
        due(x.end(6), 6);
        due(x.end(3), 3);
        due(x.end(4), -1);
        due(x.count(6), 3);
        due(x.row(), 1);
        due(x.of(0, 2), 1);
        due(x.status(), 0);
        due(x.count(7), 0);
        for (int i = 0; i < 20; i++) x.feed(0, 0, 0, 0, 0);
        due(x.end(401), -1);
        due(x.end(400), 400);
        due(x.end(0), 0);
        due(x.count(6), 0);
    }

    // ---- ROWS

    private static void row() {
        about("9: A ROW, the TAPE is empty then: how many WORDS came. -6 the TAPE is empty.");
        GalleyRoom x = new GalleyRoom();
        due(x.row(), -6);
        due(x.status(), -6);
        due(x.count(11), 1);
        type(x, "\5\0\1");
        due(x.row(), 1);
        due(x.status(), 0);
        due(x.count(6), 0);
        due(x.row(), -6);
        due(x.count(0), 1);
        type(x, "\0");
        due(x.row(), 0);
        due(x.status(), 0);
        due(x.count(6), 0);
        type(x, "\1\0\0\24\23\3");
        due(x.row(), 2);
        due(x.of(2, 1), 19);
        due(x.of(2, 2), 3);
    }

    private static void rowTurned() {
        about("IV: one that can't be is a TURNED one: nothing");
        String[] cant = {"\0\0\0", "\25\0\0", "\u00ff\0\0", "\u0080\0\0", "\5\5\0", "\1\1\0", "\24\24\0", "\5\u00ff\0", "\5\0\4", "\5\0\u00ff"};
        for (String c : cant) {
            GalleyRoom x = new GalleyRoom();
            type(x, c + "\7\0\0");
            due(x.row(), 1);
            due(x.turned(), 1);
            due(x.count(0), 1);
            due(x.of(0, 0), 7);
        }
        String[] can = {"\1\0\0", "\24\0\0", "\24\23\0", "\5\4\0", "\5\0\3"};
        for (String c : can) {
            GalleyRoom x = new GalleyRoom();
            type(x, c);
            due(x.row(), 1);
            due(x.turned(), 0);
        }
    }

    private static void rowEndsWithin() {
        about("IV: one within which the TAPE ends is a TURNED one");
        int[][] due = {{1, 0, 1}, {2, 0, 1}, {3, 1, 0}, {4, 1, 1}, {5, 1, 1}, {6, 2, 0}, {7, 2, 1}};
        for (int[] d : due) {
            GalleyRoom x = new GalleyRoom();
            type(x, "\5\1\1\5\1\1\5".substring(0, d[0]));
            due(x.row(), d[1]);
            due(x.turned(), d[2]);
            due(x.count(6), 0);
        }
        GalleyRoom x = new GalleyRoom();
        type(x, "\5\1\1\5\1\1");
        x.end(5);
        due(x.row(), 1);
        due(x.turned(), 1);
    }

    private static void rowNoRoom() {
        about("IV: one for which there is no room is a TURNED one");
        GalleyRoom x = new GalleyRoom();
        type(x, "\5\1\1".repeat(12));
        due(x.row(), 12);
        due(x.turned(), 0);
        x = new GalleyRoom();
        type(x, "\5\1\1".repeat(13));
        due(x.row(), 12);
        due(x.turned(), 1);
        due(x.count(0), 12);
        due(x.status(), 0);
        due(x.count(10), 0);
        type(x, "\5\1\1");
        due(x.row(), 0);
        due(x.turned(), 1);
        x = twelve(5, 1, 30);
        type(x, "\5\1\1".repeat(133) + "\5");
        due(x.count(6), 400);
        due(x.row(), 0);
        due(x.turned(), 134);
        x = new GalleyRoom();
        type(x, "\0\0\0\5\1\1".repeat(13));
        due(x.row(), 12);
        due(x.turned(), 14);
    }

    private static void turnedOfTheLatest() {
        about("10: How many were TURNED in the latest row() that was not REFUSED (0 ahead of any).");
        GalleyRoom x = new GalleyRoom();
        due(x.turned(), 0);
        x.row();
        due(x.turned(), 0);
        type(x, "\0\0\0\0");
        x.row();
        due(x.turned(), 2);
        x.row();
        due(x.turned(), 2);
        x.word(5, 0, 0);
        due(x.turned(), 2);
        type(x, "\5\0\0");
        due(x.turned(), 2);
        x.row();
        due(x.turned(), 0);
    }

    // ---- TOKENS and the grammar

    private static void textOf400() {
        about("II: TEXTS are on a TAPE of at most 400 bytes");
        GalleyRoom x = room(5, 5);
        x.stop(0);
        String text = "costs" + " ".repeat(392) + "123";
        due(text.length(), 400);
        due(law(x, text), 0);
        x.force(0);
        due(x.line(0, 3), 123);
        due(law(x, "costs" + " ".repeat(394) + "("), -6);
        due(x.fault(), 399);
        due(law(x, " ".repeat(400)), -6);
        due(x.fault(), 400);
        due(law(x, "a".repeat(400)), -6);
        due(x.fault(), 0);
        due(law(x, ";".repeat(400)), -6);
        due(x.fault(), 0);
        due(law(x, "costs " + "9".repeat(394)), -6);
        due(x.fault(), 6);
        due(law(x, "costs " + "0".repeat(393) + "7"), 1);
        x.force(1);
        due(x.line(0, 3), 7);
        due(law(x, "bars if " + "not ".repeat(97) + "1=1 "), 2);
        due(orders(x, "pass" + " ".repeat(395) + ";"), -6);
        due(x.fault(), 400);
        due(orders(x, "pass" + " ".repeat(396)), 1);
    }

    private static void lettersAndDigits() {
        about("II: TOKENS: longest rows of letters a .. z, of digits");
        String[][] bad = {{"costsline", "0"}, {"costs 1if 1=1 orline=1", "14"}, {"costs linehyphen", "6"}, {"costs lin", "6"}, {"costs linee", "6"},
            {"costs l ine", "6"}, {"cost s 1", "0"}, {"costs 1 0", "8"}, {"costs 100 1", "10"}, {"Costs 1", "0"}, {"costS 1", "0"}, {"bars iF 1=1", "5"},
            {"bars if 1=1 annd 1=1", "12"}, {"barsz", "0"}, {"barsa", "0"}, {"zbars", "0"}, {"abars", "0"}};
        for (String[] b : bad) {
            GalleyRoom x = new GalleyRoom();
            due(law(x, b[0]), -6);
            due(x.fault(), Integer.parseInt(b[1]));
        }
        for (String good : new String[] {"costs1", "costs1if1=1or2=2and3=3", "costs 10line", "costs[line]", "bars;bars", "bars if not1=1"})
            due(law(new GalleyRoom(), good), good.contains("0line") ? -6 : 0);
        GalleyRoom x = room(5, 5);
        due(orders(x, "swell0to6"), 1);
        due(orders(x, "passtimes2"), -6);
        due(x.fault(), 0);
        due(orders(x, "pass times20if done<3"), 3);
        due(orders(x, "end wide0-6"), 1);
    }

    private static void singleBytes() {
        about("II: TOKENS: single other bytes");
        // Those that stand next to a .. z and 0 .. 9, capitals, and the lowest and highest bytes are none of letters and digits.
        for (int b : new int[] {0, 1, 9, 10, 13, 31, 33, '/', ':', '@', 'A', 'Z', '`', '{', 127, 128, 160, 225, 255}) {
            GalleyRoom x = room(5, 5);
            due(law(x, "bars " + (char) b), -6);
            due(x.fault(), 5);
            due(law(x, "ba" + (char) b + "rs"), -6);
            due(x.fault(), 0);
            due(law(x, "costs 1" + (char) b + (char) b + "1"), -6);
            due(x.fault(), b == '/' ? 8 : 7);
            due(orders(x, "pass times 1" + (char) b), -6);
            due(x.fault(), 12);
        }
        GalleyRoom x = new GalleyRoom();
        due(law(x, "bars if 1==1"), -6);
        due(x.fault(), 10);
        due(law(x, "bars if 1<>1"), -6);
        due(x.fault(), 10);
        due(law(x, "bars if ((1=1))"), 0);
    }

    private static void blanks() {
        about("II: any blanks (32) between");
        GalleyRoom x = room(5, 5);
        x.stop(0);
        by(x, "   costs   2+  3*[  4  ]   if   1 <   2  ;  pays 9   ");
        due(x.line(0, 3), 14);
        due(x.line(0, 4), 9);
        by(x, "costs[2+3*4]if 1<2;pays 9");
        due(x.line(0, 3), 14);
        for (char c : new char[] {0, 9, 10, 11, 12, 13, 31, 33, 160}) {
            due(law(x, "bars" + c + "if 1=1"), -6);
            due(x.fault(), 4);
        }
    }

    private static void clauses() {
        about("II: CLAUSE {\";\" CLAUSE}, 12 at most (FAULT at the 13th's first TOKEN)");
        GalleyRoom x = room(5, 5);
        x.stop(0);
        due(law(x, "bars;".repeat(10) + "bars"), 0);
        due(law(x, "bars;".repeat(11) + "costs 7"), 1);
        x.force(1);
        due(x.line(0, 3), 7);
        due(x.line(0, 5), 1);
        due(law(x, "bars;".repeat(12) + "bars"), -6);
        due(x.fault(), 60);
        due(law(x, "bars;".repeat(12) + "   bars;bars"), -6);
        due(x.fault(), 63);
        due(law(x, "bars;".repeat(12)), -6);
        due(x.fault(), 60);
        due(law(x, "bars;".repeat(12) + " "), -6);
        due(x.fault(), 61);
        due(law(x, "bars;".repeat(12) + ";"), -6);
        due(x.fault(), 60);
        due(law(x, "bars;".repeat(11)), -6);
        due(x.fault(), 55);
        due(orders(x, "pass;".repeat(11) + "pass"), 12);
        due(orders(x, "pass;".repeat(12) + "pass"), -6);
        due(x.fault(), 60);
        due(orders(x, "pass;".repeat(11) + "end 9"), -3);
        due(x.stopped(), 11);
        due(x.count(13), 12);
    }

    private static void numbers() {
        about("II: NUMBER (to 1,000)");
        GalleyRoom x = room(5, 5);
        x.stop(0);
        due(costs(x, 0, "1000 - 1"), 999);
        due(costs(x, 0, "0"), 0);
        due(costs(x, 0, "1000 / 1000"), 1);
        due(costs(x, 0, "0001000 - 0999"), 1);
        String[] bad = {"1001", "1002", "9999", "10000", "2147483648", "4294967296", "4294967297", "18446744073709551617", "99999999999999999999999"};
        for (String b : bad) {
            due(law(x, "costs " + b), -6);
            due(x.fault(), 6);
            due(law(x, "costs 1+" + b), -6);
            due(x.fault(), 8);
            due(law(x, "bars if 1=" + b), -6);
            due(x.fault(), 10);
            due(orders(x, "end " + b), -6);
            due(x.fault(), 4);
        }
        due(orders(x, "end 1000"), -3);
    }

    private static void parts() {
        about("II: 50 PARTS that are NUMBERS and words (FAULT at the 51st)");
        GalleyRoom x = room(5, 5);
        x.stop(0);
        due(costs(x, 0, "1" + "+1".repeat(48)), 49);
        due(costs(x, 0, "1" + "+1".repeat(49)), 50);
        due(law(x, "costs 1" + "+1".repeat(50)), -6);
        due(x.fault(), 7 + 99);
        due(law(x, "costs 1" + "+1".repeat(49) + "+line"), -6);
        due(x.fault(), 7 + 99);
        due(law(x, "costs 1" + "+1".repeat(49) + "+"), -6);
        due(x.fault(), 7 + 99);
        due(law(x, "costs 1" + "+1".repeat(49) + "+[  1]"), -6);
        due(x.fault(), 7 + 99 + 3);
        due(costs(x, 0, "pieces" + "+pieces".repeat(49)), 50);
        due(law(x, "costs line" + "+line".repeat(50)), -6);
        due(x.fault(), 10 + 5 * 50 - 4);
        about("II: brackets are no PARTS, and all CLAUSES count");
        due(costs(x, 0, "[1]" + "+[1]".repeat(49)), 50);
        due(law(x, "bars if 1=1" + " or 1=1".repeat(24)), 0);
        due(law(x, "bars if 1=1" + " or 1=1".repeat(24) + ";costs 1"), -6);
        due(x.fault(), 11 + 7 * 24 + 7);
        due(law(x, "costs 1" + "+1".repeat(24) + ";bars;pays 1" + "+1".repeat(24)), 1);
        due(law(x, "costs 1" + "+1".repeat(24) + ";bars;pays 1" + "+1".repeat(24) + "+1"), -6);
        due(law(x, "bars if not (1=1)" + " and not (1=1)".repeat(24)), 2);
    }

    private static void partsOfOrders() {
        about("II: W, TIMES aside, NUMBERS and words count as PARTS");
        GalleyRoom x = room(1, 5);
        due(orders(x, "swell 0 to wide 0" + "+wide 0".repeat(5) + " times 1"), 1);
        due(x.of(0, 0), 6);
        String forty = "wide 0" + "+wide 0".repeat(48);
        due(orders(x, "swell 0 to " + forty + " times 20"), -3);
        due(orders(x, "swell 0 to " + forty + "+1 times 20"), -6);
        due(x.fault(), 11 + forty.length() + 1);
        due(orders(x, "swell 0 to " + forty + "+wide 0"), -6);
        due(x.fault(), 11 + forty.length() + 1);
        due(orders(x, "swell 0 to " + forty + " if 1=1"), -6);
        due(x.fault(), 11 + forty.length() + 4);
        due(orders(x, "pass times 2 if 1=1" + " and 1=1".repeat(24)), 2);
        due(orders(x, "pass times 2 if 1=1" + " and 1=1".repeat(24) + ";pass"), 3);
        due(orders(x, "pass times 2 if 1=1" + " and 1=1".repeat(24) + ";end ends 0"), -6);
        due(x.fault(), 19 + 8 * 24 + 5);
    }

    private static void brackets() {
        about("II: 8 brackets of both kinds within one another (FAULT at the 9th) at most");
        GalleyRoom x = room(5, 5);
        x.stop(0);
        due(costs(x, 0, "[".repeat(8) + "7" + "]".repeat(8)), 7);
        due(law(x, "costs " + "[".repeat(9) + "7" + "]".repeat(9)), -6);
        due(x.fault(), 14);
        due(law(x, "costs " + "[".repeat(9)), -6);
        due(x.fault(), 14);
        due(costs(x, 0, "7 if " + "(".repeat(8) + "1=1" + ")".repeat(8)), 7);
        due(law(x, "bars if " + "(".repeat(9) + "1=1" + ")".repeat(9)), -6);
        due(x.fault(), 16);
        due(costs(x, 0, "7 if " + "(".repeat(4) + "[".repeat(4) + "1" + "]".repeat(4) + "=1" + ")".repeat(4)), 7);
        due(law(x, "bars if " + "(".repeat(4) + "[".repeat(5) + "1" + "]".repeat(5) + "=1" + ")".repeat(4)), -6);
        due(x.fault(), 16);
        due(law(x, "bars if " + "(".repeat(8) + "[1]=1" + ")".repeat(8)), -6);
        due(x.fault(), 16);
        due(law(x, "bars if " + "not (".repeat(8) + "1=1" + ")".repeat(8)), 0);
        due(law(x, "bars if " + "not (".repeat(9) + "1=1" + ")".repeat(9)), -6);
        due(x.fault(), 8 + 5 * 8 + 4);
        about("II: brackets that are closed do not count");
        String eight = "[".repeat(8) + "1" + "]".repeat(8);
        due(costs(x, 0, eight + "+" + eight + "*" + eight), 2);
        due(law(x, "costs " + eight + "+[" + eight + "]"), -6);
        due(x.fault(), 6 + 17 + 1 + 8);
        due(costs(x, 0, "[[1]+" + "[".repeat(7) + "1" + "]".repeat(7) + "]"), 2);
        due(costs(x, 0, eight + " if " + eight + "=" + eight + ";costs " + eight + "+1"), 2);
        due(orders(x, "swell " + eight + " to 6+" + eight), 1);
        due(x.of(1, 0), 7);
        due(orders(x, "swell 0 to " + "[".repeat(9)), -6);
        due(x.fault(), 19);
    }

    private static void faults(boolean orders, Object... rows) {
        for (int i = 0; i < rows.length; i += 2) {
            GalleyRoom x = room(5, 5);
            String text = (String) rows[i];
            due(orders ? orders(x, text) : law(x, text), -6);
            due(x.status(), -6);
            due(x.fault(), (Integer) rows[i + 1]);
            due(x.count(6), 0);
            due(x.count(4), 0);
            due(x.count(13), 0);
            due(x.count(11), 1);
        }
    }

    private static void faultAtTheEnd() {
        about("II: FAULT: (the end's: the TEXT's length)");
        faults(false, "", 0, " ", 1, "costs", 5, "costs ", 6, "costs  ", 7, "costs 1+", 8, "costs 1 * ", 10, "costs [1", 8, "costs [", 7, "pays", 4,
            "bars;", 5, "bars if", 7, "bars if not", 11, "bars if 1", 9, "bars if 1 = ", 12, "bars if (1=1", 12, "bars if (1=1) or", 16,
            "bars if 1=1 and ", 16, "bars if [1]", 11, "bars if (", 9, "bars if line", 12);
        faults(true, "", 0, "  ", 2, "end", 3, "split", 5, "swell", 5, "swell 0", 7, "swell 0 to", 10, "swell 0 to ", 11, "pass times", 10, "pass if", 7,
            "pass;", 5, "end wide", 8, "end ends ", 9, "end 0 times ", 12, "swell wide 1", 12, "pass if fit", 11);
    }

    private static void faultOfTheGrammar() {
        about("II: FAULT: the first TOKEN that can't go on there");
        faults(false, "1", 0, "if 1=1", 0, "end 0", 0, "pass", 0, "costs if", 6, "costs bars", 6, "costs to", 6, "costs (1)", 6, "costs ]", 6, "costs 1 ]", 8,
            "costs 1 [", 8, "costs [1)", 8, "costs []", 7, "costs [1;", 8, "costs 1 1", 8, "costs 1 line", 8, "costs 1 < 2", 8, "costs 1 to 2", 8,
            "costs 1 times 2", 8, "costs - 1", 6, "costs 1 + - 1", 10, "costs 1 ; ; bars", 10, "costs 1 bars", 8, "costs wide 0", 6, "costs done", 6,
            "costs lines", 6, "costs proofs", 6, "bars 1", 5, "bars bars", 5, "bars if bars", 8, "bars if or", 8, "bars if 1=1 1", 12, "bars if 1 and 2", 10,
            "bars if 1=1=1", 11, "bars if (1=1", 12, "bars if (1)", 10, "bars if (1)=1", 10, "bars if 1=(1)", 10, "bars if 1=1)", 11, "bars if [1=1]", 10,
            "bars if not not", 15, "bars if 1=1 not 1=1", 12, "bars if 1=not 1=1", 10, "bars if 1=1 or and 1=1", 15, "bars if 1=1 if 1=1", 12, "; bars", 0);
        faults(true, "costs 1", 0, "bars", 0, "stop 0", 0, "end if", 4, "end to", 4, "end 0 to 1", 6, "split 0 to 1", 8, "swell 0 1", 8, "swell 0 times 2", 8,
            "swell to 1", 6, "pass 1", 5, "pass to 1", 5, "pass times times", 11, "pass times 2 times 2", 13, "pass if 1=1 times 2", 12, "pass if times", 8,
            "end line", 4, "end pieces", 4, "end short", 4, "end hyphen", 4, "end last", 4, "end kind", 4, "end mood", 4, "pass; bars", 6, "pass pass", 5);
    }

    // ---- SUMS and TESTS

    private static void far() {
        about("II: Beyond 1,000,000,000 either way a SUM is BROKEN");
        GalleyRoom x = room(5, 5);
        x.stop(0);
        String far = "1000*1000*1000";
        int without = 25;
        due(costs(x, 0, far), 999);
        due(costs(x, 0, far + "+0"), 999);
        due(costs(x, 0, far + "+1"), without);
        due(costs(x, 0, far + "*2"), without);
        due(costs(x, 0, far + "-1"), 999);
        due(costs(x, 0, "0-" + far), 0);
        due(costs(x, 0, "0-" + far + "-1"), without);
        due(costs(x, 0, "0-" + far + "+1"), 0);
        due(costs(x, 0, "[0-" + far + "]*1"), 0);
        due(costs(x, 0, "[0-" + far + "]*2"), without);
        due(costs(x, 0, "[0-1000]*1000*1000"), 0);
        due(costs(x, 0, "[0-1000]*1000*[1000+1]"), without);
        due(costs(x, 0, "1-" + far + "-1"), 0);
        due(costs(x, 0, "1-" + far + "-2"), without);
        due(costs(x, 0, far + "/[" + far + "]"), 1);
        due(costs(x, 0, far + "%[" + far + "]+7"), 7);
        about("II: Beyond 1,000,000,000 either way a TEST is BROKEN");
        due(costs(x, 0, "3 if " + far + ">0"), 3);
        due(costs(x, 0, "3 if " + far + "+1>0"), without);
        due(costs(x, 0, "3 if not " + far + "+1>0"), without);
        due(costs(x, 0, "3 if 0>0-" + far), 3);
        due(costs(x, 0, "3 if 0>0-" + far + "-1"), without);
        due(costs(x, 0, "3 if not 0>0-" + far + "-1"), without);
    }

    private static void farBetween() {
        about("II: a SUM that was beyond 1,000,000,000 on its way is BROKEN");
        GalleyRoom x = room(5, 5);
        x.stop(0);
        String far = "1000*1000*1000";
        due(costs(x, 0, far + "+1-1"), 25);
        due(costs(x, 0, "[" + far + "+1]/1000"), 25);
        due(costs(x, 0, far + "*1000/1000"), 25);
        due(costs(x, 0, "0*[" + far + "+1]"), 25);
        due(costs(x, 0, "0*[" + far + "]+4"), 4);
        due(costs(x, 0, "1000*1000*1000*1000*1000*1000*1000*1000"), 25);
        due(costs(x, 0, far + "*" + "[" + far + "]"), 25);
    }

    private static void byNought() {
        about("II: divided by 0 (/ cut towards 0, % what is left then) a SUM is BROKEN");
        GalleyRoom x = room(5, 5);
        x.stop(0);
        for (String sum : new String[] {"1/0", "0/0", "1%0", "0%0", "1/[1-1]", "5+1/line", "1%line", "1/[1/2]", "0*[1/0]", "[1/0]%1"}) due(costs(x, 0, sum), 25);
        due(costs(x, 0, "0/1"), 0);
        due(costs(x, 0, "0%1"), 0);
        due(costs(x, 0, "1/1"), 1);
        due(costs(x, 0, "7/2"), 3);
        due(costs(x, 0, "7%2"), 1);
        due(costs(x, 0, "10+[0-7]/2"), 7);
        due(costs(x, 0, "10+[0-7]%2"), 9);
        due(costs(x, 0, "10+7/[0-2]"), 7);
        due(costs(x, 0, "10+7%[0-2]"), 11);
        due(costs(x, 0, "10+[0-7]/[0-2]"), 13);
        due(costs(x, 0, "10+[0-7]%[0-2]"), 9);
        due(costs(x, 0, "10+[0-1]/2"), 10);
        due(costs(x, 0, "10+[0-1]%2"), 9);
    }

    private static void brokenTests() {
        about("II: divided by 0 a TEST is BROKEN");
        GalleyRoom x = room(5, 5);
        x.stop(0);
        for (String test : new String[] {"1/0=1", "1=1/0", "not 1/0=1", "not not 1/0=1", "(1/0=1)", "not (1/0=1)", "1%0<1", "1>1%0"}) {
            due(costs(x, 0, "3 if " + test), 25);
            GalleyRoom y = room(5, 5);
            due(orders(y, "pass if " + test), 0);
            due(y.status(), 0);
        }
    }

    private static void onlyIfItMatters() {
        about("II: (\"or\", \"and\" ask what stands behind only if it can still matter)");
        GalleyRoom x = room(5, 5);
        x.stop(0);
        String[] so = {"1=1 or 1/0=1", "not (1=2 and 1/0=1)", "1=1 or 1=2 or 1/0=1", "1=2 or 1=1 or 1/0=1", "1=1 or 1/0=1 and 1=1",
            "1=2 and 1/0=1 or 1=1", "not (1=1 and 1=2 and 1/0=1)", "1=1 and (1=1 or 1/0=1)", "not ((1=1 or 1/0=1) and 1=2)"};
        String[] not = {"1=2 or 1/0=1", "1=1 and 1/0=1", "not (1=1 and 1/0=1)", "not (1=2 or 1/0=1)", "1/0=1 or 1=1", "not (1/0=1 and 1=2)",
            "1=2 or 1/0=1 or 1=1", "not (1=1 and 1/0=1 and 1=2)", "(1=2 or 1/0=1) or 1=1"};
        for (String test : so) due(costs(x, 0, "3 if " + test), 3);
        for (String test : not) due(costs(x, 0, "3 if " + test), 25);
    }

    // ---- LAWS

    private static void sixLaws() {
        about("II, 11: LAWS, 6 at most; -5 (ahead of reading it; the TAPE is empty then, too)");
        GalleyRoom x = room(5, 5);
        x.stop(0);
        for (int i = 0; i < 6; i++) due(law(x, "costs " + i), i);
        due(x.count(4), 6);
        due(x.status(), 0);
        due(law(x, "costs 6"), -5);
        due(x.status(), -5);
        due(x.count(6), 0);
        due(law(x, "costs"), -5);
        due(x.fault(), -1);
        due(x.law(), -5);
        due(x.count(10), 3);
        due(x.count(11), 0);
        due(x.count(4), 6);
        due(x.force(5), -1);
        due(x.line(0, 3), 5);
        due(x.force(6), -2);
        due(x.compare(5) >= 0 ? 1 : 0, 1);
        due(x.compare(6), -1);
        GalleyRoom y = new GalleyRoom();
        for (int i = 0; i < 5; i++) law(y, "bars");
        due(law(y, "costs"), -6);
        due(law(y, "bars"), 5);
        due(law(y, "bars"), -5);
        due(y.fault(), -1);
    }

    private static void noneInForce() {
        about("II: one is in FORCE (NONE at first: no CLAUSE)");
        GalleyRoom x = room(5, 5);
        x.stop(0);
        due(x.count(12), -1);
        due(law(x, "costs 7; pays 7; bars"), 0);
        due(x.count(12), -1);
        due(x.line(0, 3), 25);
        due(x.line(0, 4), 1);
        due(x.line(0, 5), 0);
        due(x.force(0), -1);
        due(x.line(0, 3), 7);
        due(x.line(0, 4), 7);
        due(x.line(0, 5), 1);
    }

    private static void lawEmptiesTheTape() {
        about("11: The TAPE, which is empty then, becomes a LAW: its number. It leaves what can be undone.");
        GalleyRoom x = room(5, 5);
        x.stop(0);
        due(law(x, "bars"), 0);
        due(x.count(6), 0);
        due(x.count(5), 1);
        due(law(x, "bars bars"), -6);
        due(x.count(6), 0);
        due(x.count(5), 1);
        due(x.count(4), 1);
        due(law(x, "bars"), 1);
        due(x.undo(), 0);
        type(x, "bars ");
        type(x, "if 1=1");
        due(x.law(), 2);
    }

    private static void blanksAlone() {
        about("11, 12: -6 (blanks alone: FAULT at the end)");
        for (int n : new int[] {0, 1, 2, 20, 399, 400}) {
            GalleyRoom x = room(5);
            due(law(x, " ".repeat(n)), -6);
            due(x.fault(), n);
            due(x.status(), -6);
            due(orders(x, " ".repeat(n)), -6);
            due(x.fault(), n);
            due(x.count(11), 2);
            due(x.count(6), 0);
        }
        GalleyRoom x = room(5);
        due(law(x, "  x"), -6);
        due(x.fault(), 2);
        about("11, 12: what was on the TAPE ahead of it is gone");
        due(law(x, "bars"), 0);
        due(x.law(), -6);
        due(x.fault(), 0);
        due(law(x, "   "), -6);
        due(x.law(), -6);
        due(x.fault(), 0);
        due(orders(x, "pass"), 1);
        due(x.orders(), -6);
        due(x.fault(), 0);
        type(x, "bars if 1=1");
        x.end(4);
        due(x.law(), 1);
        type(x, "   bars");
        x.end(3);
        due(x.law(), -6);
        due(x.fault(), 3);
    }

    private static void faultOfTheLatest() {
        about("13: FAULT of the latest law(), orders() that read a TEXT: its place; NONE without.");
        GalleyRoom x = room(5, 5);
        due(x.fault(), -1);
        law(x, "costs");
        due(x.fault(), 5);
        x.row();
        x.word(0, 0, 0);
        due(x.fault(), 5);
        law(x, "bars");
        due(x.fault(), -1);
        orders(x, "end");
        due(x.fault(), 3);
        orders(x, "end 9");
        due(x.fault(), -1);
        law(x, "costs");
        orders(x, "pass");
        due(x.fault(), -1);
        orders(x, "pass 1");
        law(x, "bars");
        due(x.fault(), -1);
        for (int i = 2; i < 6; i++) law(x, "bars");
        orders(x, "pass 1");
        due(law(x, "costs"), -5);
        due(x.fault(), 5);
        orders(x, "pass  1");
        due(law(x, "bars"), -5);
        due(x.fault(), 6);
    }

    private static void lawWords() {
        about("II: line: its number (0 the first of the SETTING)");
        GalleyRoom x = twelve(4, 2, 30);
        for (int w = 0; w < 12; w++) x.split(w);
        for (int w = 0; w < 11; w++) x.stop(w);
        by(x, "costs line; pays line");
        for (int i = 0; i < 24; i++) due(x.line(i, 3), i);
        due(x.all(1), 23 * 24 / 2);
        about("II: pieces, hyphen, last, kind (SPLIT or not)");
        GalleyRoom y = four();
        y.stop(0);
        y.split(1);
        // "10", "4-", "4 12 5"
        int[][] told = {{1, 0, 0, 0}, {1, 1, 0, 1}, {3, 0, 1, 3}};
        String[] words = {"pieces", "hyphen", "last", "kind"};
        for (int k = 0; k < 4; k++) for (int i = 0; i < 3; i++) due(costs(y, i, words[k]), told[i][k]);
        GalleyRoom z = new GalleyRoom();
        z.word(9, 4, 2);
        due(costs(z, 0, "last*10+hyphen"), 10);
        z.split(0);
        due(costs(z, 0, "last*10+hyphen"), 1);
        due(costs(z, 1, "last*10+hyphen"), 10);
        due(costs(z, 0, "kind"), 2);
        due(costs(z, 1, "kind"), 2);
    }

    private static void shortBelowNought() {
        about("II: short: MEASURE less its WIDTH (below 0, if it is wider)");
        GalleyRoom x = room(6, 5);
        x.terms(3, 13);
        due(costs(x, 0, "100+short"), 101);
        x.terms(3, 12);
        due(costs(x, 0, "100+short"), 100);
        x.terms(3, 11);
        due(costs(x, 0, "100+short"), 99);
        due(costs(x, 0, "3 if short<0"), 3);
        x.terms(3, 12);
        due(costs(x, 0, "3 if short<0"), 0);
        GalleyRoom widest = twelve(20, 1, 10);
        due(costs(widest, 0, "300+short"), 59);
        GalleyRoom least = room(1);
        least.terms(3, 60);
        due(costs(least, 0, "short"), 59);
    }

    private static void proofAsItIs() {
        about("II: proof: PROOF as it is then; mood");
        GalleyRoom x = by(room(5, 5), "costs proof; pays mood; bars if proof = 999 and mood = 9");
        due(x.line(0, 3), 0);
        due(x.line(0, 4), 0);
        x.pass();
        due(x.line(0, 3), 1);
        x.undo();
        due(x.line(0, 3), 0);
        x.terms(0, 998);
        x.terms(2, 9);
        due(x.line(0, 3), 998);
        due(x.line(0, 4), 9);
        due(x.line(0, 5), 0);
        x.pass();
        due(x.line(0, 3), 999);
        due(x.line(0, 5), 1);
        due(x.best(-1), -1);
        x.undo();
        due(x.best(-1), 998);
    }

    private static void clauseHolds() {
        about("II: A CLAUSE HOLDS, if its \"if\" is so, and neither that nor its SUM is BROKEN.");
        GalleyRoom x = room(5, 5);
        x.stop(0);
        due(costs(x, 0, "3 if line=0"), 3);
        due(costs(x, 1, "3 if line=0"), 0);
        due(costs(x, 0, "3 if 1/line=1"), 25);
        due(costs(x, 1, "3 if 1/line=1"), 3);
        due(costs(x, 0, "3/line if 1=1"), 25);
        due(costs(x, 1, "3/line if 1=1"), 3);
        due(costs(x, 1, "3/line"), 3);
        due(costs(x, 0, "3;bars if 1/0=1"), 3);
        by(x, "bars if 1/line=1");
        due(x.line(0, 5), 0);
        due(x.line(1, 5), 1);
    }

    private static void costs() {
        about("II: A LINE COSTS 0 .. 999 as the last \"costs\" that HOLDS tells (else the nearest)");
        GalleyRoom x = room(5, 5);
        x.stop(0);
        due(costs(x, 0, "0-1"), 0);
        due(costs(x, 0, "0-1000"), 0);
        due(costs(x, 0, "0"), 0);
        due(costs(x, 0, "1"), 1);
        due(costs(x, 0, "998"), 998);
        due(costs(x, 0, "999"), 999);
        due(costs(x, 0, "1000"), 999);
        due(costs(x, 0, "1000*1000"), 999);
        due(costs(x, 1, "999"), 999);
        due(costs(x, 1, "1000"), 999);
        due(costs(x, 0, "5; costs 4"), 4);
        due(costs(x, 0, "5; costs 4; costs 3 if 1=2"), 4);
        due(costs(x, 0, "5; costs 4; costs 1/0"), 4);
        due(costs(x, 0, "1/0; costs 4"), 4);
        due(costs(x, 0, "5 if 1=2; costs 4"), 4);
        due(costs(x, 0, "5 if 1/0=1; costs 4"), 4);
        due(costs(x, 0, "5; costs 0-4"), 0);
        due(costs(x, 0, "5; pays 4; bars"), 5);
    }

    private static void costsWithout() {
        about("II: without as much as it is short (0, if that is below 0, or it is the last one)");
        GalleyRoom x = room(9, 9, 9);
        x.stop(0);
        x.stop(1);
        x.terms(3, 11);
        due(x.line(0, 3), 2);
        x.terms(3, 10);
        due(x.line(0, 3), 1);
        x.swell(0, 10);
        due(x.line(0, 3), 0);
        x.swell(0, 11);
        due(x.line(0, 3), 0);
        due(x.line(1, 3), 1);
        due(x.line(2, 3), 0);
        x.word(1, 0, 0);
        due(x.line(2, 3), 0);
        x.stop(2);
        due(x.line(2, 3), 1);
        due(x.line(3, 3), 0);
        GalleyRoom least = room(1, 1);
        least.stop(0);
        least.terms(3, 60);
        due(least.line(0, 3), 59);
    }

    private static void pays() {
        about("II: it PAYS 0 .. 99, as many as it has PIECES without");
        String[] texts = {"pays 0-1", "pays 0", "pays 1", "pays 98", "pays 99", "pays 100", "pays 1000*1000", "pays 5; pays 6", "pays 5; pays 6 if 1=2",
            "pays 5; pays 1/0", "pays 1/0", "pays 7 if 1=2", "costs 9", "bars"};
        int[] told = {0, 0, 1, 98, 99, 99, 99, 6, 5, 5, 3, 3, 3, 3};
        for (int i = 0; i < texts.length; i++) due(by(room(5, 5, 5), texts[i]).line(0, 4), told[i]);
        due(twelve(2, 1, 30).line(0, 4), 12);
        due(room(5).line(0, 4), 1);
    }

    private static void bars() {
        about("II: it is BARRED, if \"bars\" HOLDS");
        String[] texts = {"bars", "bars if 1=1", "bars if 1=2", "bars if 1=2; bars", "bars; bars if 1=2", "bars if 1/0=1", "bars if 1=1 or 1/0=1", "costs 1; pays 1"};
        int[] told = {1, 1, 0, 1, 1, 0, 1, 0};
        for (int i = 0; i < texts.length; i++) {
            GalleyRoom x = by(room(5, 5, 5), texts[i]);
            due(x.line(0, 5), told[i]);
            due(x.line(0, 6), 1 - told[i]);
        }
    }

    // ---- ORDERS

    private static void times() {
        about("II: TIMES: a NUMBER 1 .. 20; each as often as TIMES tell (once without)");
        GalleyRoom x = room(5, 5);
        due(orders(x, "pass"), 1);
        due(orders(x, "pass times 1"), 1);
        due(orders(x, "pass times 2"), 2);
        due(orders(x, "pass times 19"), 19);
        due(orders(x, "pass times 20"), 20);
        due(orders(x, "pass times 0020"), 20);
        due(x.count(13), 63);
        due(orders(x, "pass times 20;".repeat(11) + "pass times 20"), 240);
        due(x.count(13), 303);
        for (String bad : new String[] {"0", "21", "99", "1000", "1001", "4294967297", "00", "proof", "[1]", "-1"}) {
            due(orders(x, "pass times " + bad), -6);
            due(x.fault(), 11);
        }
        due(orders(x, "pass times 2+1"), -6);
        due(x.fault(), 12);
        due(orders(x, "pass times 2 1"), -6);
        due(x.fault(), 13);
        due(orders(x, "pass times if 1"), -6);
        due(x.fault(), 11);
        due(orders(x, "end 0 times 3"), 3);
        due(x.of(0, 3), 1);
        due(x.count(13), 303);
    }

    private static void wordsOfOrders() {
        about("II: \"wide\" W | \"ends\" W (W: a NUMBER 0 .. 11)");
        GalleyRoom x = twelve(5, 2, 30);
        due(orders(x, "pass if wide 0 = 5"), 1);
        due(orders(x, "pass if wide 11 = 5"), 1);
        due(orders(x, "pass if wide 0011 = 5"), 1);
        due(orders(x, "pass if ends 0 = 0"), 1);
        due(orders(x, "pass if ends 11 = 1"), 1);
        for (String word : new String[] {"wide", "ends"})
            for (String bad : new String[] {"12", "13", "1000", "1001", "4294967296", "proof", "[1]", "-1", "wide"}) {
                due(orders(x, "pass if " + word + " " + bad + " = 5"), -6);
                due(x.fault(), 13);
            }
    }

    private static void eachTimeAsked() {
        about("II: each time its \"if\" is asked (not run, if it is not so or BROKEN), then its SUMS from the left");
        GalleyRoom x = room(5, 5, 5);
        due(orders(x, "pass times 20 if proof < 7"), 7);
        due(x.count(13), 7);
        due(orders(x, "pass times 5 if proof % 2 = 1"), 1);
        due(orders(x, "pass times 3 if 1/[proof-8] = 0"), 0);
        due(orders(x, "pass; pass times 3 if 10/[proof-8] > 9"), 2);
        due(orders(x, "swell 0 to wide 0 + 1 times 15"), 15);
        due(x.of(0, 0), 20);
        due(orders(x, "swell 1 to wide 1 + 1 times 20 if wide 1 < 8"), 3);
        due(x.of(1, 0), 8);
        due(orders(x, "end done times 2"), 2);
        due(x.of(0, 3), 1);
        due(x.of(1, 3), 1);
        due(orders(x, "end 1/0 if 1=2; pass"), 1);
        due(orders(x, "end 9 if 1/0=1; pass"), 1);
        about("II: the \"if\" is asked ahead of the change");
        GalleyRoom y = room(5, 5, 5);
        due(orders(y, "end 0 times 2 if lines = 1"), 1);
        due(orders(y, "swell 0 to 6 if wide 0 = 6"), 0);
        due(y.of(0, 0), 5);
    }

    private static void done() {
        about("II: done: how many were run in this TEXT");
        due(asks(() -> room(5, 5), "", "done"), 0);
        due(asks(() -> room(5, 5), "pass;", "done"), 1);
        due(asks(() -> room(5, 5), "pass times 20 if proof < 9; end 0; end 1 if 1=2;", "done"), 10);
        due(asks(() -> room(5, 5), "pass if 1/0=1;", "done"), 0);
        GalleyRoom x = room(5, 5);
        orders(x, "pass times 3");
        due(orders(x, "pass if done = 0"), 1);
    }

    private static void latest() {
        about("II: latest: what the latest pass in it told (-1: none)");
        due(asks(() -> room(5, 5), "", "latest"), -1);
        due(asks(() -> room(5, 5), "end 0;", "latest"), -1);
        due(asks(() -> room(5, 5), "pass;", "latest"), 1);
        due(asks(() -> room(5, 5), "pass;end 0;", "latest"), 1);
        due(asks(() -> room(5, 5), "pass;end 0;pass;", "latest"), 2);
        due(asks(() -> room(5, 5), "pass if 1=2;", "latest"), -1);
        due(asks(() -> by(room(5, 5), "bars"), "pass;", "latest"), 0);
        due(asks(() -> by(room(5, 5), "bars if proof = 1"), "pass;", "latest"), 1);
        due(asks(() -> by(room(5, 5), "bars if proof = 1"), "pass;pass;", "latest"), 0);
        GalleyRoom x = room(5, 5);
        x.pass();
        due(orders(x, "pass"), 1);
        due(orders(x, "pass if latest = 0 - 1"), 1);
        due(orders(x, "pass; end 9"), -3);
        due(orders(x, "end 0 if latest = 0 - 1"), 1);
        due(asks(() -> new GalleyRoom(), "pass;", "latest"), 0);
    }

    private static GalleyRoom tooWide() {
        GalleyRoom x = room(5, 20, 5);
        x.terms(3, 10);
        return x;
    }

    private static void linesAndFit() {
        about("II: lines: how many LINES the SETTING has, fit: how many of them FIT");
        due(asks(() -> new GalleyRoom(), "", "lines"), 0);
        due(asks(() -> new GalleyRoom(), "", "fit"), 0);
        due(asks(() -> tooWide(), "", "lines"), 1);
        due(asks(() -> tooWide(), "", "fit"), 0);
        due(asks(() -> tooWide(), "end 0;end 1;", "lines"), 3);
        due(asks(() -> tooWide(), "end 0;end 1;", "fit"), 2);
        due(asks(() -> tooWide(), "end 0;end 1;swell 1 to 10;", "fit"), 3);
        due(asks(() -> by(tooWide(), "bars if line = 0"), "end 0;end 1;", "fit"), 1);
        due(asks(() -> by(tooWide(), "bars if proof = 1"), "end 0;end 1;pass;", "fit"), 0);
        due(asks(() -> twelve(5, 2, 10), "end 0;end 1;end 2;end 3;end 4;split 0;split 1;split 11;", "lines"), 9);
    }

    private static void wideAndEnds() {
        about("II: wide: how WIDE a WORD is, ends: 0 .. 3 both; -1 each without such a WORD");
        GalleyRoom none = new GalleyRoom();
        due(orders(none, "pass if wide 0 = 0-1 and ends 0 = 0-1 and wide 11 = 0-1"), 1);
        due(asks(() -> four(), "", "wide 3"), 5);
        due(asks(() -> four(), "", "wide 4"), -1);
        due(asks(() -> four(), "swell 3 to 20;", "wide 3"), 20);
        due(asks(() -> four(), "", "ends 3"), 1);
        due(asks(() -> four(), "", "ends 4"), -1);
        due(asks(() -> four(), "", "ends 11"), -1);
        due(asks(() -> four(), "", "ends 1"), 0);
        due(asks(() -> four(), "end 1;", "ends 1"), 1);
        due(asks(() -> four(), "split 1;", "ends 1"), 2);
        due(asks(() -> four(), "split 1;end 1;", "ends 1"), 3);
        due(asks(() -> four(), "split 1;end 0;", "ends 1"), 2);
        due(asks(() -> four(), "split 1;end 1;split 1;end 1;", "ends 1"), 0);
        due(asks(() -> twelve(5, 2, 30), "split 11;", "ends 11"), 3);
        due(asks(() -> twelve(5, 2, 30), "", "wide 11"), 5);
    }

    private static void ordersThatCantBe() {
        about("II, 12: One that can't be (a BROKEN SUM, as stop() for \"end\", split(), swell(), pass() are REFUSED) ends it. -3");
        String[] cant = {"end 1/0", "end 1%0", "end 4", "end 3", "end 0-1", "end 1000*1000*1000", "end 0-1000*1000*1000", "end 1000*1000*1000+1", "end 1000*1000*4",
            "split 0", "split 3", "split 4", "split 0-1", "split 1/0", "swell 0 to 0", "swell 0 to 21", "swell 0 to 0-1", "swell 0 to 10", "swell 1 to 4", "swell 4 to 9",
            "swell 0-1 to 9", "swell 1/0 to 9", "swell 0 to 1/0", "swell 0 to 1000*1000*1000", "pass times 4"};
        for (String c : cant) {
            GalleyRoom x = four();
            x.terms(0, 996);
            due(orders(x, c), -3);
            due(x.status(), -3);
            due(x.stopped(), 0);
            due(x.fault(), -1);
            due(x.count(9), 1);
            due(x.count(7), 0);
            due(x.count(8), 0);
            due(x.count(13), 996);
        }
        String[] can = {"end 0", "end 2", "split 1", "split 2", "swell 0 to 1", "swell 0 to 20", "swell 0 to 9", "swell 0 to 11", "swell 1 to 5", "swell 3 to 4", "pass times 3"};
        for (String c : can) {
            GalleyRoom x = four();
            x.terms(0, 996);
            due(orders(x, c), c.equals("pass times 3") ? 3 : 1);
            due(x.status(), 0);
        }
    }

    private static void ordersNotAtAll() {
        about("II: ends it: all is as it was ahead of it");
        GalleyRoom x = four();
        x.stop(1);
        x.split(2);
        x.swell(0, 11);
        x.pass();
        x.seen(0, 3);
        for (String text : new String[] {"end 0;end 1;split 1;split 2;swell 0 to 7;pass times 20;end 3", "pass;pass times 20;split 3", "pass;end 1/0", "end 1 times 20;split 0"}) {
            due(orders(x, text), -3);
            due(x.of(0, 3), 0);
            due(x.of(1, 3), 1);
            due(x.of(1, 4), 0);
            due(x.of(2, 4), 1);
            due(x.of(0, 0), 11);
            due(x.count(13), 1);
            due(x.count(5), 4);
            due(x.count(3), 1);
            due(x.count(6), 0);
        }
        due(x.undo(), 3);
        due(x.undo(), 2);
        due(x.of(0, 0), 10);
        due(x.undo(), 1);
        due(x.undo(), 0);
        due(x.undo(), -3);
        about("II: what can be undone is as it was, too, with all 16");
        GalleyRoom y = room(5, 5, 5);
        for (int i = 0; i < 15; i++) y.swell(0, 6 + i);
        y.stop(0);
        due(orders(y, "pass times 17; end 2"), -3);
        due(y.count(5), 16);
        due(y.undo(), 0);
        for (int i = 14; i >= 0; i--) {
            due(y.undo(), 2);
            due(y.of(0, 0), 5 + i);
        }
        due(y.undo(), -3);
    }

    private static void ordersTold() {
        about("12: ORDERS, the TAPE is empty then: how many were run. -3 one can't be; -6 (as for law()).");
        GalleyRoom x = room(5, 5);
        due(orders(x, "pass if 1=2"), 0);
        due(x.status(), 0);
        due(x.count(6), 0);
        due(orders(x, "pass times 2; end 0; pass if 1=2"), 3);
        due(orders(x, "pass; end 1"), -3);
        due(x.count(6), 0);
        due(orders(x, "pass; end"), -6);
        due(x.count(6), 0);
        due(x.status(), -6);
        due(x.count(13), 2);
        due(x.orders(), -6);
        due(x.fault(), 0);
        due(x.count(11), 2);
        due(x.count(9), 1);
        GalleyRoom none = new GalleyRoom();
        due(orders(none, "pass times 20"), 20);
        due(orders(none, "end 0"), -3);
    }

    private static void stopped() {
        about("14: Which CLAUSE of the latest orders() could not be. NONE.");
        GalleyRoom x = room(5, 5);
        due(x.stopped(), -1);
        orders(x, "end 1");
        due(x.stopped(), 0);
        law(x, "bars");
        law(x, "costs");
        x.stop(9);
        x.row();
        due(x.stopped(), 0);
        orders(x, "pass;end 0 if 1=2;pass;end 1 if 1=1");
        due(x.stopped(), 3);
        orders(x, "pass");
        due(x.stopped(), -1);
        orders(x, "pass;".repeat(11) + "end 1");
        due(x.stopped(), 11);
        orders(x, "pass 1");
        due(x.stopped(), -1);
        orders(x, "pass;end 1");
        due(x.stopped(), 1);
        x.orders();
        due(x.stopped(), -1);
    }

    private static void force() {
        about("15: A LAW is in FORCE (NONE: none): which was. -2. It leaves what can be undone.");
        GalleyRoom x = room(5, 5);
        x.stop(0);
        due(x.force(0), -2);
        due(x.status(), -2);
        due(x.force(-1), -1);
        due(x.status(), 0);
        law(x, "costs 1");
        law(x, "costs 2");
        for (int law : new int[] {-2, 2, 6, LOWEST, HIGHEST}) {
            due(x.force(law), -2);
            due(x.count(12), -1);
        }
        due(x.count(8), 6);
        due(x.count(7), 0);
        due(x.force(1), -1);
        due(x.force(2), -2);
        due(x.count(12), 1);
        due(x.line(0, 3), 2);
        due(x.force(0), 1);
        due(x.force(0), 0);
        due(x.line(0, 3), 1);
        due(x.force(-1), 0);
        due(x.count(12), -1);
        due(x.line(0, 3), 25);
        due(x.count(5), 1);
        due(x.undo(), 0);
    }
}
