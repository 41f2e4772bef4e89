/** The promises 1 to 41 one by one: ordinary inputs, the edges that the document names, wrong inputs. */
public final class PromiseTest extends Bench {
    public static void main(String[] args) {
        words();
        lines();
        terms();
        tape();
        rows();
        laws();
        lawWords();
        sums();
        tests();
        faults();
        limits();
        orders();
        orderWords();
        force();
        changes();
        undo();
        paper();
        narrowAndLeaveOut();
        river();
        seen();
        few();
        compare();
        weeks();
        images();
        counts();
        finish();
    }

    private static void words() {
        about("1 new object");
        GalleyRoom x = new GalleyRoom();
        int[] fresh = {0, 0, 0, 0, 0, 0, 0, 0, 0, 0, 0, 0, -1, 0, 1, 0, 30};
        for (int i = 0; i < fresh.length; i++) due(x.count(i), fresh[i]);
        due(x.fault(), -1);
        due(x.stopped(), -1);
        due(x.turned(), 0);
        due(x.status(), 0);
        due(x.drawn(0, 0), -1);
        due(x.back(0), -2);
        about("2 word");
        x = new GalleyRoom();
        due(x.word(1, 0, 0), 0);
        due(x.of(0, 3), 1);
        due(x.word(20, 19, 3), 1);
        due(x.of(0, 3), 0);
        due(x.of(1, 3), 1);
        int[][] bad = {{0, 0, 0}, {21, 0, 0}, {-1, 0, 0}, {5, -1, 0}, {5, 5, 0}, {1, 1, 0}, {20, 20, 0}, {5, 0, -1}, {5, 0, 4},
            {Integer.MAX_VALUE, 0, 0}, {5, Integer.MIN_VALUE, 0}, {5, 0, Integer.MAX_VALUE}};
        for (int[] b : bad) {
            due(x.word(b[0], b[1], b[2]), -1);
            due(x.status(), -1);
        }
        due(x.count(7), bad.length);
        for (int i = 2; i < 12; i++) due(x.word(3, 0, 1), i);
        due(x.word(3, 0, 1), -5);
        due(x.status(), -5);
        due(x.word(0, 0, 1), -1);
        due(x.count(0), 12);
        due(x.count(10), 1);
        about("3 of");
        x = four();
        int[][] of = {{10, 0, 0, 0, 0}, {8, 4, 1, 0, 0}, {12, 6, 2, 0, 0}, {5, 0, 3, 1, 0}};
        for (int w = 0; w < 4; w++) for (int what = 0; what < 5; what++) due(x.of(w, what), of[w][what]);
        due(x.of(0, 5), -1);
        due(x.of(0, -1), -1);
        due(x.of(4, 0), -1);
        due(x.of(-1, 0), -1);
        due(x.of(Integer.MAX_VALUE, 0), -1);
        x.split(1);
        x.stop(1);
        due(x.of(1, 3), 1);
        due(x.of(1, 4), 1);
        due(x.status(), 0);
        due(x.count(7), 0);
    }

    private static void lines() {
        about("4 line");
        GalleyRoom x = four();
        x.split(1);
        x.stop(1);
        x.split(2);
        // "10 4-", "4", "6-", "6 5"
        int[][] told = {{2, 16, 2, 4, 2, 0, 1}, {3, 4, 1, 16, 1, 0, 1}, {4, 7, 1, 13, 1, 0, 1}, {7, 12, 2, 0, 2, 0, 1}};
        for (int i = 0; i < 4; i++) for (int what = 0; what < 7; what++) due(x.line(i, what), told[i][what]);
        due(x.line(4, 0), -1);
        due(x.line(-1, 0), -1);
        due(x.line(0, 7), -1);
        due(x.line(0, -1), -1);
        x.terms(3, 15);
        due(x.line(0, 3), 0);
        due(x.line(0, 6), 0);
        due(x.line(0, 5), 0);
        x.terms(3, 16);
        due(x.line(0, 6), 1);
        law(x, "bars if hyphen = 1");
        x.force(0);
        due(x.line(0, 5), 1);
        due(x.line(0, 6), 0);
        due(x.line(1, 5), 0);
        about("5 all");
        due(x.all(0), 0 + 12 + 9);
        due(x.all(1), 6);
        due(x.all(2), 2);
        due(x.all(3), -1);
        due(x.all(-1), -1);
        due(new GalleyRoom().all(1), 0);
        x = room(5, 5);
        due(x.all(1), 2);
        x.terms(3, 10);
        due(x.all(2), 0);
        x.stop(0);
        due(x.all(2), 2);
        about("4 line: the first WORD is SPLIT");
        x = new GalleyRoom();
        x.word(9, 1, 0);
        x.split(0);
        due(x.count(1), 2);
        due(x.line(0, 0), 0);
        due(x.line(0, 1), 2);
        due(x.line(1, 1), 8);
    }

    private static void terms() {
        about("6 terms");
        GalleyRoom x = new GalleyRoom();
        int[][] edges = {{0, 0, 999, 0}, {1, 0, 10, 1}, {2, 0, 9, 0}, {3, 10, 60, 30}};
        for (int[] e : edges) {
            due(x.terms(e[0], e[1] - 1), -1);
            due(x.terms(e[0], e[2] + 1), -1);
            due(x.terms(e[0], e[1]), e[3]);
            due(x.terms(e[0], e[2]), e[1]);
            due(x.count(13 + e[0]), e[2]);
        }
        due(x.terms(4, 10), -1);
        due(x.terms(-1, 10), -1);
        due(x.status(), -1);
        due(x.terms(2, 3), 9);
        due(x.status(), 0);
        due(x.count(7), 10);
    }

    private static void tape() {
        about("7 feed");
        GalleyRoom x = new GalleyRoom();
        for (int i = 1; i <= 20; i++) due(x.feed(1, 2, 3, 4, 5), 20 * i);
        due(x.feed(1, 2, 3, 4, 5), -1);
        due(x.count(6), 400);
        due(x.end(381), 381);
        due(x.feed(1, 2, 3, 4, 5), -1);
        due(x.count(6), 381);
        due(x.end(380), 380);
        due(x.feed(1, 2, 3, 4, 5), 400);
        due(x.status(), 0);
        due(x.count(7), 0);
        about("8 end");
        due(x.end(401), -1);
        due(x.end(-1), -1);
        due(x.end(400), 400);
        due(x.end(0), 0);
        due(x.end(1), -1);
        due(x.count(6), 0);
        x.feed(0x05000107, 0x02FF0300, -1, 0, 0);
        due(x.end(8), 8);
        due(x.row(), 1);
        due(x.of(0, 0), 5);
        due(x.of(0, 2), 1);
        due(x.turned(), 2);
    }

    private static void rows() {
        about("9 row");
        GalleyRoom x = new GalleyRoom();
        due(x.row(), -6);
        due(x.status(), -6);
        due(x.count(11), 1);
        type(x, "\24\23\3\1\0\0");
        due(x.row(), 2);
        due(x.status(), 0);
        due(x.count(6), 0);
        due(x.of(0, 0), 20);
        due(x.of(0, 1), 19);
        due(x.of(0, 3), 0);
        due(x.of(1, 3), 1);
        due(x.turned(), 0);
        about("10 turned");
        type(x, "\0\0\0\25\0\0\5\5\0\5\0\4\u00ff\0\0\5\1");
        due(x.row(), 0);
        due(x.turned(), 6);
        due(x.status(), 0);
        due(x.row(), -6);
        due(x.turned(), 6);
        type(x, "\3\0\0".repeat(11) + "\3");
        due(x.row(), 10);
        due(x.turned(), 2);
        due(x.count(0), 12);
        x.image(0);
        x.back(0);
        due(x.turned(), 2);
        type(x, "\3\0\0".repeat(133) + "\3");
        due(x.row(), 0);
        due(x.turned(), 134);
        about("9 row and what can be undone");
        x.stop(0);
        due(x.row(), -6);
        due(x.count(5), 1);
        type(x, "x");
        due(x.row(), 0);
        due(x.count(5), 0);
    }

    private static void laws() {
        about("11 law");
        GalleyRoom x = room(5, 5);
        x.stop(0);
        for (int i = 0; i < 6; i++) due(law(x, "costs " + i), i);
        due(x.count(4), 6);
        due(x.count(6), 0);
        due(x.count(5), 1);
        due(x.force(-1), -1);
        due(law(x, "nonsense"), -5);
        due(x.count(6), 0);
        due(x.fault(), -1);
        due(x.status(), -5);
        x = room(5, 5);
        due(law(x, "costs 1 1"), -6);
        due(x.count(6), 0);
        due(x.status(), -6);
        due(x.fault(), 8);
        due(x.count(4), 0);
        due(law(x, "costs 1"), 0);
        due(x.fault(), -1);
        due(x.law(), -6);
        due(x.fault(), 0);
        due(law(x, "   "), -6);
        due(x.fault(), 3);
        due(x.count(11), 3);
        about("11 law: what a LINE costs, pays, which is barred");
        x = room(5, 5);
        x.stop(0);
        String[] texts = {"costs 7;costs 8", "costs 7;costs 8 if 1=2", "costs 1000", "costs 0-1", "costs 999", "pays 100", "pays 0-1",
            "pays 99;pays 1/0", "costs 9 if last=1", "bars;costs 3", "pays 5;bars if 1=2;pays 6 if 1/0=1", "bars if 1/0=1 or 1=1"};
        int[][] want = {{8, 1, 0}, {7, 1, 0}, {999, 1, 0}, {0, 1, 0}, {999, 1, 0}, {25, 99, 0}, {25, 0, 0},
            {25, 99, 0}, {25, 1, 0}, {3, 1, 1}, {25, 5, 0}, {25, 1, 0}};
        for (int i = 0; i < texts.length; i++) {
            x.image(0);
            x.force(law(x, texts[i]));
            for (int k = 0; k < 3; k++) due(x.line(0, 3 + k), want[i][k]);
            x.back(0);
        }
    }

    private static void lawWords() {
        about("11 law: its words");
        GalleyRoom x = four();
        x.stop(0);
        x.split(1);
        x.terms(0, 42);
        x.terms(2, 6);
        // "10", "4-", "4 12 5" in 20
        String[] words = {"line", "pieces", "short+100", "hyphen", "last", "kind", "proof", "mood"};
        int[][] want = {{0, 1, 2}, {1, 1, 3}, {110, 115, 97}, {0, 1, 0}, {0, 0, 1}, {0, 1, 3}, {42, 42, 42}, {6, 6, 6}};
        for (int i = 0; i < words.length; i++) for (int k = 0; k < 3; k++) due(costs(x, k, words[i]), want[i][k]);
    }

    private static void sums() {
        about("11 law: SUMS");
        GalleyRoom x = room(5, 5);
        x.stop(0);
        String[] sums = {"1+2*3", "[1+2]*3", "10-3-2", "100/7/2", "7/[0-2]+10", "7%[0-2]+10", "[0-7]/2+10", "[0-7]%2+10", "17%5*2",
            "1000*1000*1000/1000/1000/2", "[0-1000*1000*1000]+1000*1000*1000+7", "0012", "2*[3+[4-1]]", " 3  +4 ",
            // BROKEN ones: 25 by how short it is
            "1000*1000*1000+1", "[1000*1000*1000+1]/1000/1000", "[0-1000*1000*1000]-1", "5/0", "5%0", "0*[1/0]", "1000*1000*[1000+1]"};
        int[] want = {7, 9, 5, 7, 7, 11, 7, 9, 4, 500, 7, 12, 12, 7, 25, 25, 25, 25, 25, 25, 25};
        for (int i = 0; i < sums.length; i++) due(costs(x, 0, sums[i]), want[i]);
    }

    private static void tests() {
        about("11 law: TESTS");
        GalleyRoom x = room(5, 5);
        x.stop(0);
        String[] so = {"1<2", "2>1", "1=1", "not 2<1", "not not 1=1", "1=2 or 1=1", "1=1 and 2=2", "1=2 and 1=2 or 1=1",
            "1=1 or 1=1 and 1=2", "not(1=1 and 1=2)", "not 1=2 and 1=1", "1=1 or 1/0=1", "not (1=2 and 1/0=1)", "1=2 and 1/0=1 or 1=1",
            "(1=1)", "((1=2) or (1=1))", "[1]=1", "not(1=1 or 1=1)or 3>2"};
        String[] not = {"not 1<2", "not 2>1", "2<1", "1<1", "1>1", "1=2", "not 1=1", "1=2 or 2=1", "1=1 and 1=2", "1=1 and(1=2 or 1=2)", "1/0=1 or 1=1",
            "not 1/0=1", "1=2 or 1/0=1", "1=1 and 1/0=1", "1/0=1 and 1=2", "not(1/0=1 and 1=2)", "(1=1 or 1=1)and 1=2", "1000*1000*1000+1>0"};
        for (String t : so) due(costs(x, 0, "3 if " + t), 3);
        for (String t : not) due(costs(x, 0, "3 if " + t), 25);
    }

    private static void faults() {
        about("13 fault");
        Object[][] laws = {{"", 0}, {" ", 1}, {"costs", 5}, {"costs ", 6}, {"costs;", 5}, {"cost 1", 0}, {"COSTS 1", 0}, {"costs 1001", 6},
            {"costs 99999999999999999999", 6}, {"costs 1 +", 9}, {"costs +1", 6}, {"costs -1", 6}, {"costs 1 2", 8}, {"costs (1)", 6},
            {"costs [1", 8}, {"costs [1)", 8}, {"costs 1]", 7}, {"costs done", 6}, {"costs wide 1", 6}, {"costs line line", 11},
            {"bars 1", 5}, {"bars if", 7}, {"bars if 1", 9}, {"bars if 1=", 10}, {"bars if 1=1=1", 11}, {"bars if (1=1", 12},
            {"bars if [1=1]", 10}, {"bars if (1)=1", 10}, {"bars if not", 11}, {"bars if 1=1 or", 14}, {"bars if 1=1 xor 1=1", 12},
            {"bars if 1=1 if 1=1", 12}, {"bars;", 5}, {"bars;;bars", 5}, {";bars", 0}, {"bars,bars", 4}, {"bars times 2", 5},
            {"pays 1 to 2", 7}, {"costsx 1", 0}, {"costsz 1", 0}, {"acosts 1", 0}, {";".repeat(400), 0}, {"bars" + "+".repeat(396), 4},
            {"bars if " + "not ".repeat(98), 400}, {"costs 1" + " ".repeat(392) + "(", 399}, {"costs1 x", 7}, {"costs 1x", 7}, {"costs 1\n", 7}, {"costs \u00e9", 6}, {"pass", 0},
            {"bars if 1==1", 10}, {"bars if 1<=1", 10}, {"costs 1.5", 7}, {"costs 12 3", 9}, {"costs ones", 6}};
        for (Object[] f : laws) {
            GalleyRoom x = new GalleyRoom();
            due(law(x, (String) f[0]), -6);
            due(x.fault(), (Integer) f[1]);
            due(x.count(4), 0);
        }
        for (String good : new String[] {"costs 1000", "costs1", "bars", "bars if 1=1and 2=2or 3=3", "pays[1]", "bars ;bars", "costs 00001",
            "bars if not not not 1=1", " bars if(1=1) "}) due(law(new GalleyRoom(), good), 0);
        Object[][] orders = {{"", 0}, {"end", 3}, {"swell 0", 7}, {"swell 0 to", 10}, {"swell 0 by 1", 8}, {"split 0 to 1", 8}, {"pass 1", 5},
            {"pass times 0", 11}, {"pass times 21", 11}, {"pass times", 10}, {"pass times if 1", 11}, {"pass times 0 if 1", 11}, {"end [[[[[[[[[1]]]]]]]]]", 12},
            {"swell 0 to [[[[[[[[[1]]]]]]]]]", 19}, {"pass times proof", 11}, {"pass if 1=1 times 2", 12},
            {"end wide 12", 9}, {"end wide", 8}, {"end ends [1]", 9}, {"end wide proof", 9}, {"end line", 4}, {"end mood", 4},
            {"pass;costs 1", 5}, {"stop 0", 0}, {"end 0 end 1", 6}, {"pass times 1+1", 12}, {"end wide 99999999999", 9}};
        for (Object[] f : orders) {
            GalleyRoom x = room(5, 5, 5);
            due(orders(x, (String) f[0]), -6);
            due(x.fault(), (Integer) f[1]);
            due(x.stopped(), -1);
            due(x.count(6), 0);
        }
        about("13 fault: which TEXT");
        GalleyRoom x = room(5, 5);
        law(x, "costs");
        due(x.row(), -6);
        due(x.fault(), 5);
        due(orders(x, "pass"), 1);
        due(x.fault(), -1);
        orders(x, "end");
        due(x.fault(), 3);
        x.image(0);
        x.back(0);
        due(x.fault(), 3);
        due(orders(x, "end 9"), -3);
        due(x.fault(), -1);
    }

    private static void limits() {
        about("11, 12: how long a TEXT may be");
        GalleyRoom x = room(5, 5);
        due(law(x, "bars;".repeat(11) + "bars"), 0);
        due(law(x, "bars;".repeat(12) + "bars"), -6);
        due(x.fault(), 60);
        due(law(x, "bars;".repeat(12) + "  "), -6);
        due(x.fault(), 62);
        due(law(x, "bars;".repeat(12) + " x"), -6);
        due(x.fault(), 61);
        due(law(x, "costs 1" + "+1".repeat(49)), 1);
        due(law(x, "costs 1" + "+1".repeat(50)), -6);
        due(x.fault(), 106);
        due(law(x, "costs 1" + "+1".repeat(24) + ";pays 1" + "+1".repeat(24)), 2);
        due(law(x, "costs 1" + "+1".repeat(24) + ";pays 1" + "+1".repeat(24) + " if line=1"), -6);
        due(x.fault(), 55 + 7 + 48 + 4);
        due(orders(x, "end wide 0" + "+wide 0".repeat(49) + " times 2"), -3);
        due(orders(x, "end wide 0" + "+wide 0".repeat(49) + " times 2 if 1=1"), -6);
        due(x.fault(), 10 + 7 * 49 + 12);
        due(law(x, "costs [[[[[[[[1]]]]]]]]"), 3);
        due(law(x, "costs [[[[[[[[[1]]]]]]]]]"), -6);
        due(x.fault(), 14);
        due(law(x, "bars if ((((([[[1]]]=1)))))"), 4);
        due(law(x, "bars if (((((([[[1]]]=1))))))"), -6);
        due(x.fault(), 16);
        due(law(x, "bars if (((((((((1=1)))))))))"), -6);
        due(x.fault(), 16);
        due(law(x, "costs [1]" + "+[1]".repeat(49)), 5);
        due(orders(x, "swell [[[[[[[[0]]]]]]]] to [[[[[[[[9]]]]]]]]"), 1);
        due(x.of(0, 0), 9);
        x = room(5, 5);
        due(law(x, "bars if " + "not ".repeat(97) + "1=1"), 0);
        x.force(0);
        due(x.line(0, 5), 0);
    }

    private static void orders() {
        about("12 orders");
        GalleyRoom x = room(5, 5, 5, 5);
        due(orders(x, "end 0;end 1;end 2 if 1=2;pass times 3"), 5);
        due(x.count(6), 0);
        due(x.count(1), 3);
        due(x.count(13), 3);
        due(x.count(5), 5);
        due(orders(x, "pass if 1=2"), 0);
        due(x.status(), 0);
        due(orders(x, "pass times 20 if done < 4"), 4);
        due(x.count(13), 7);
        due(orders(x, "pass times 3 if 1/0=1"), 0);
        about("12 orders: not at all");
        x.end(0);
        int undoes = x.count(5);
        due(orders(x, "end 0;swell 1 to 9;pass times 20;end 3"), -3);
        due(x.status(), -3);
        due(x.stopped(), 3);
        due(x.of(0, 3), 1);
        due(x.of(1, 0), 5);
        due(x.count(13), 7);
        due(x.count(5), undoes);
        due(x.count(9), 1);
        due(x.undo(), 3);
        due(x.count(13), 6);
        String[] cannot = {"end 4", "end 3", "end 0-1", "end 1/0", "split 0", "split 9", "swell 0 to 5", "swell 0 to 0", "swell 0 to 21",
            "swell 4 to 6", "swell 0 to 1/0", "swell 1/0 to 6", "end 1000*1000*1000", "end 0-1000*1000*1000", "end 1000*1000*1000+1"};
        for (String c : cannot) {
            due(orders(x, c), -3);
            due(x.stopped(), 0);
        }
        about("14 stopped");
        due(orders(x, "pass;pass;end 9"), -3);
        due(x.stopped(), 2);
        x.image(0);
        x.back(0);
        due(x.stopped(), 2);
        due(orders(x, "pass;pass"), 2);
        due(x.stopped(), -1);
        orders(x, "end 9");
        due(orders(x, "end"), -6);
        due(x.stopped(), -1);
        x.terms(0, 998);
        due(orders(x, "pass;pass"), -3);
        due(x.stopped(), 1);
        due(x.count(13), 998);
    }

    /** "10 4-", "4", "6-", "6 5" */
    private static GalleyRoom splitInFour() {
        GalleyRoom x = four();
        x.split(1);
        x.stop(1);
        x.split(2);
        x.terms(0, 7);
        return x;
    }

    private static void orderWords() {
        about("12 orders: their words");
        GalleyRoom x = splitInFour();
        due(asks(PromiseTest::splitInFour, "", "proof"), 7);
        due(asks(PromiseTest::splitInFour, "", "done"), 0);
        due(asks(PromiseTest::splitInFour, "", "latest"), -1);
        due(asks(PromiseTest::splitInFour, "", "lines"), 4);
        due(asks(PromiseTest::splitInFour, "", "fit"), 4);
        due(asks(PromiseTest::splitInFour, "", "wide 0"), 10);
        due(asks(PromiseTest::splitInFour, "", "wide 1"), 8);
        due(asks(PromiseTest::splitInFour, "", "wide 4"), -1);
        due(asks(PromiseTest::splitInFour, "", "wide 11"), -1);
        due(asks(PromiseTest::splitInFour, "", "ends 0"), 0);
        due(asks(PromiseTest::splitInFour, "", "ends 1"), 3);
        due(asks(PromiseTest::splitInFour, "", "ends 2"), 2);
        due(asks(PromiseTest::splitInFour, "", "ends 3"), 1);
        due(asks(PromiseTest::splitInFour, "", "ends 4"), -1);
        x.pass();
        due(orders(x, "pass;end 0 if latest = 4;pass;end 0 if latest = 5"), 4);
        due(orders(x, "pass;pass;pass if done = 2;pass if done = 2"), 3);
        x = room(9, 9, 9, 9);
        x.terms(3, 10);
        law(x, "bars if proof = 1");
        x.force(0);
        due(orders(x, "end 0;end 1;end 2;pass;end 0 if latest = 4;pass;end 0 if latest = 0;pass;end 0 if latest = 2;pass"), 9);
        due(x.pass(), 4);
    }

    private static void force() {
        about("15 force");
        GalleyRoom x = room(5, 5);
        due(x.force(0), -2);
        due(x.force(-2), -2);
        due(x.status(), -2);
        due(x.force(-1), -1);
        due(x.status(), 0);
        law(x, "costs 1");
        law(x, "costs 2");
        x.stop(0);
        due(x.force(1), -1);
        due(x.line(0, 3), 2);
        due(x.force(0), 1);
        due(x.line(0, 3), 1);
        due(x.count(12), 0);
        due(x.force(-1), 0);
        due(x.line(0, 3), 25);
        due(x.count(5), 1);
        due(x.force(2), -2);
        due(x.count(12), -1);
        due(x.count(8), 3);
    }

    private static void changes() {
        about("16 stop");
        GalleyRoom x = four();
        due(x.stop(-1), -2);
        due(x.stop(4), -2);
        due(x.stop(3), -3);
        due(x.status(), -3);
        due(x.stop(0), 1);
        due(x.count(1), 2);
        due(x.stop(0), 0);
        due(x.count(1), 1);
        due(new GalleyRoom().stop(0), -2);
        about("17 split");
        due(x.split(-1), -2);
        due(x.split(4), -2);
        due(x.split(0), -3);
        due(x.split(2), 1);
        due(x.split(2), 0);
        due(x.split(1), 1);
        due(x.of(1, 4), 1);
        about("18 swell");
        due(x.swell(9, 0), -1);
        due(x.swell(9, 21), -1);
        due(x.swell(4, 1), -2);
        due(x.swell(-1, 1), -2);
        due(x.swell(0, 10), -3);
        due(x.swell(1, 4), -3);
        due(x.swell(1, 3), -3);
        due(x.swell(1, 5), 8);
        due(x.swell(0, 1), 10);
        due(x.swell(0, 20), 1);
        due(x.of(0, 0), 20);
        about("19 pass");
        x = room(9, 9);
        law(x, "bars if proof = 1");
        x.force(0);
        due(x.pass(), 1);
        due(x.pass(), 0);
        due(x.pass(), 1);
        due(x.count(13), 3);
        x.terms(0, 998);
        due(x.pass(), 1);
        due(x.pass(), -3);
        due(x.status(), -3);
        due(x.count(13), 999);
        due(new GalleyRoom().pass(), 0);
    }

    private static void undo() {
        about("20 undo");
        GalleyRoom x = four();
        due(x.undo(), -3);
        due(x.status(), -3);
        for (int i = 0; i < 20; i++) x.pass();
        due(x.count(5), 16);
        for (int i = 0; i < 16; i++) due(x.undo(), 3);
        due(x.undo(), -3);
        due(x.count(13), 4);
        x.stop(0);
        x.split(1);
        x.swell(1, 20);
        x.stop(0);
        law(x, "costs 1");
        x.force(0);
        x.seen(0, 1);
        x.forget();
        x.image(0);
        x.weeks(1, 9);
        x.stop(3);
        x.word(0, 0, 0);
        x.terms(0, -1);
        x.back(1);
        x.row();
        due(x.count(5), 4);
        due(x.undo(), 0);
        due(x.of(0, 3), 1);
        due(x.undo(), 2);
        due(x.of(1, 0), 8);
        due(x.undo(), 1);
        due(x.of(1, 4), 0);
        due(x.undo(), 0);
        due(x.of(0, 3), 0);
        due(x.count(12), 0);
        due(x.undo(), -3);
        about("20 undo: ended by");
        x.stop(0);
        x.terms(2, 1);
        due(x.undo(), -3);
        x.stop(0);
        x.word(1, 0, 0);
        due(x.undo(), -3);
        x.stop(0);
        type(x, "\1");
        x.row();
        due(x.undo(), -3);
        x.image(1);
        x.stop(0);
        x.back(1);
        due(x.undo(), -3);
        about("20 undo: the 16 latest");
        x = room(5, 5, 5);
        for (int i = 0; i < 7; i++) {
            x.swell(i % 3, 6 + i);
            x.stop(i % 2);
            x.pass();
        }
        // 21 in all: the first five are past undoing
        for (int i = 6; i >= 2; i--) {
            due(x.undo(), 3);
            due(x.undo(), 0);
            due(x.undo(), 2);
            due(x.of(i % 3, 0), i < 3 ? 5 : 6 + i - 3);
        }
        due(x.count(5), 1);
        due(x.undo(), 3);
        due(x.undo(), -3);
        due(x.of(0, 0), 6);
        due(x.of(1, 0), 7);
        due(x.of(0, 3), 1);
        due(x.of(1, 3), 1);
        due(x.count(13), 1);
        about("20 undo: behind ORDERS that could not be");
        x = room(5, 5, 5);
        x.swell(1, 9);
        x.swell(2, 7);
        x.stop(1);
        for (int i = 0; i < 13; i++) x.pass();
        due(orders(x, "swell 0 to 6; swell 0 to 7; swell 0 to 8; end 0; pass times 20; end 9"), -3);
        for (int i = 0; i < 13; i++) due(x.undo(), 3);
        due(x.undo(), 0);
        due(x.of(1, 3), 0);
        due(x.undo(), 2);
        due(x.of(2, 0), 5);
        due(x.undo(), 2);
        due(x.of(1, 0), 5);
        due(x.of(0, 0), 5);
        about("20 undo: by ORDERS");
        x = room(5, 5, 5);
        x.stop(0);
        due(orders(x, "pass times 20;end 1"), 21);
        due(x.count(5), 16);
        due(x.undo(), 0);
        for (int i = 0; i < 15; i++) due(x.undo(), 3);
        due(x.undo(), -3);
        due(x.of(0, 3), 1);
        due(x.count(13), 5);
        x = room(5, 5, 5);
        for (int i = 0; i < 16; i++) x.stop(i % 2);
        due(orders(x, "pass times 20;pass if lines = 3;end 9"), -3);
        for (int i = 15; i >= 0; i--) due(x.undo(), 0);
        due(x.undo(), -3);
    }

    private static void paper() {
        GalleyRoom x = four();
        about("21 best");
        due(x.best(-1), 1);
        due(x.best(0), 3);
        due(x.best(1), 7);
        due(x.best(2), -1);
        due(x.best(-2), -1);
        due(x.best(Integer.MIN_VALUE), -1);
        due(new GalleyRoom().best(-1), 0);
        due(new GalleyRoom().best(0), -1);
        GalleyRoom wide = room(20, 20);
        wide.terms(3, 19);
        due(wide.best(-1), -1);
        due(wide.best(0), -1);
        about("21 best: the first as a row of PLACES");
        GalleyRoom y = four();
        law(y, "costs 0");
        y.force(0);
        int[] all = {1, 2, 3, 4, 5, 7};
        for (int i = 0; i < all.length; i++) due(y.best(i), all[i]);
        law(y, "costs 1");
        y.force(1);
        due(y.best(-1), 2);
        due(y.best(0), 3);
        GalleyRoom z = room(5, 5, 5);
        z.terms(3, 11);
        law(z, "costs 4");
        z.force(0);
        due(z.best(-1), 8);
        due(z.best(0), 1);
        due(z.best(1), 5);
        about("21 best: the number of the LINE");
        law(z, "costs 9 - line * 4");
        z.force(1);
        due(z.best(-1), 14);
        law(z, "costs 9 - line * 9");
        z.force(2);
        due(z.best(-1), 9);
        due(z.best(1), 3);
        due(z.best(2), 5);
        about("21 to 24: a LAW that asks for the number of the LINE alone");
        GalleyRoom fours = room(5, 5, 5, 5);
        fours.terms(3, 11);
        due(fours.most(), 4);
        law(fours, "bars if line > 2");
        fours.force(0);
        due(fours.most(), 3);
        due(fours.ways(), 4);
        due(fours.narrow(4), 11);
        about("26 richest: not by the first way that comes there");
        law(fours, "pays pieces * pieces if line = 0; pays 0 if line > 0");
        fours.force(1);
        due(fours.richest(), 4);
        law(fours, "pays pieces * pieces if line = 1; pays 0 if not line = 1");
        fours.force(2);
        due(fours.richest(), 4);
        about("22 just");
        due(x.just(0), -1);
        due(x.just(1), -1);
        due(x.just(2), 1);
        due(x.just(3), 7);
        due(x.just(7), -1);
        due(x.just(25), -1);
        due(x.just(-1), -1);
        due(new GalleyRoom().just(0), 0);
        due(new GalleyRoom().just(1), -1);
        about("22 to 26 with 24 LINES");
        GalleyRoom full = new GalleyRoom();
        for (int i = 0; i < 12; i++) full.word(20, 10, 0);
        full.terms(3, 11);
        due(full.just(24), 11);
        due(full.fewest(), 24);
        due(full.most(), 24);
        due(full.ways(), 1);
        due(full.richest(), 24);
        due(full.best(23), 23);
        due(full.narrow(24), 11);
        due(full.narrow(23), 20);
        about("23 fewest");
        due(x.fewest(), 2);
        due(wide.fewest(), -1);
        due(new GalleyRoom().fewest(), 0);
        about("24 most");
        due(x.most(), 6);
        due(wide.most(), -1);
        due(new GalleyRoom().most(), 0);
        about("25 ways");
        due(x.ways(), 24);
        due(wide.ways(), 0);
        due(new GalleyRoom().ways(), 1);
        GalleyRoom many = new GalleyRoom();
        for (int i = 0; i < 12; i++) many.word(2, 1, 0);
        many.terms(3, 60);
        due(many.ways(), 1L << 23);
        due(many.most(), 24);
        about("26 richest");
        due(x.richest(), 6);
        due(wide.richest(), -1);
        due(new GalleyRoom().richest(), 0);
        law(many, "pays 99");
        many.force(0);
        due(many.richest(), 99 * 24);
        law(many, "bars if last = 0 or line > 0; pays 7");
        many.force(1);
        due(many.richest(), 7);
        about("21 to 28: whatever the SETTING is");
        x.stop(0);
        x.split(1);
        due(x.best(0), 3);
        due(x.ways(), 24);
        due(x.leaveOut(0), 2);
    }

    private static void narrowAndLeaveOut() {
        about("27 narrow");
        GalleyRoom x = four();
        due(x.narrow(0), -1);
        due(x.narrow(1), 38);
        due(x.narrow(2), 19);
        due(x.narrow(24), 10);
        due(x.narrow(25), -1);
        due(x.narrow(-1), -1);
        due(x.count(16), 20);
        due(new GalleyRoom().narrow(0), 10);
        due(new GalleyRoom().narrow(24), 10);
        due(new GalleyRoom().narrow(25), -1);
        due(room(20, 20, 20).narrow(1), -1);
        due(room(20, 20, 18).narrow(1), 60);
        law(x, "bars if short < 3");
        x.force(0);
        due(x.narrow(1), 41);
        law(x, "bars if not short = 12");
        x.force(1);
        due(x.narrow(1), 50);
        about("28 leaveOut");
        x = four();
        due(x.leaveOut(0), 2);
        due(x.leaveOut(1), 1);
        due(x.leaveOut(2), -1);
        due(x.leaveOut(-1), -1);
        due(x.count(0), 4);
        due(new GalleyRoom().leaveOut(0), -1);
        due(new GalleyRoom().leaveOut(1), -1);
        GalleyRoom one = room(20);
        one.terms(3, 10);
        due(one.leaveOut(0), 0);
        due(one.leaveOut(1), 0);
        GalleyRoom two = room(20, 20);
        two.terms(3, 10);
        due(two.leaveOut(0), -1);
        due(two.leaveOut(1), -1);
        GalleyRoom alike = room(5, 5, 5);
        due(alike.leaveOut(0), 0);
        GalleyRoom kinds = new GalleyRoom();
        for (int i = 0; i < 4; i++) kinds.word(5, i == 3 ? 2 : 0, i);
        kinds.terms(3, 10);
        law(kinds, "costs kind * 10 + hyphen * 100 + last");
        kinds.force(0);
        due(kinds.best(-1), 0 + 10 + 20 + 31);
        due(kinds.leaveOut(0), 3);
        due(kinds.leaveOut(1), 0 + 10 + 21);
        law(kinds, "costs 50 - kind * 10; costs 0 if kind = 3 and hyphen = 1");
        kinds.force(1);
        // "5", "5", "5 2-", "3"
        due(kinds.best(-1), 50 + 40 + 0 + 20);
        due(kinds.leaveOut(0), 0);
        due(kinds.leaveOut(1), 40 + 0 + 20);
        law(kinds, "bars if hyphen = 0 and kind = 3 and last = 0; bars if last = 1 and pieces = 1 and short < 7");
        kinds.force(2);
        due(kinds.fewest(), 4);
        due(kinds.leaveOut(0), 0);
        due(kinds.leaveOut(1), 5 + 1 + 0);
        GalleyRoom late = room(5, 5, 20);
        late.terms(3, 11);
        due(late.leaveOut(0), 2);
        due(late.leaveOut(1), 0);
    }

    private static void river() {
        about("29 river");
        due(new GalleyRoom().river(), 0);
        due(room(5).river(), 0);
        due(room(5, 5).river(), 1);
        GalleyRoom x = room(3, 3, 4, 3, 5, 3);
        x.stop(1);
        x.stop(3);
        due(x.river(), 3);
        x.swell(4, 6);
        due(x.river(), 2);
        x.swell(2, 5);
        due(x.river(), 2);
        x.swell(2, 8);
        due(x.river(), 1);
        about("29 river: a LINE without a space parts it");
        x = room(3, 3, 9, 3, 3);
        x.stop(1);
        x.stop(2);
        due(x.river(), 1);
        about("29 river: the second space, a LINE that is too wide");
        x = room(2, 4, 3, 7, 2);
        x.stop(2);
        x.terms(3, 10);
        due(x.river(), 2);
        x.swell(3, 8);
        due(x.river(), 2);
        x.swell(3, 9);
        due(x.river(), 1);
        about("29 river: to the left, and as far left as can be");
        x = room(3, 3, 2, 3, 1, 3);
        x.stop(1);
        x.stop(3);
        due(x.river(), 3);
        about("29 river: PARTS of WORDS");
        x = new GalleyRoom();
        x.word(5, 0, 0);
        x.word(9, 4, 0);
        x.word(3, 0, 0);
        x.split(1);
        due(x.river(), 2);
    }

    private static void seen() {
        about("30 seen");
        GalleyRoom x = four();
        x.stop(1);
        x.split(2);
        // widths 19, 7, 12; costs 1, 13, 0; pays and pieces 2, 1, 2
        x.stop(0);
        x.undo();
        due(x.seen(-1, 0), -1);
        due(x.seen(4, 0), -1);
        due(x.seen(0, -1), -1);
        due(x.seen(0, 1000), -1);
        due(x.status(), -1);
        due(x.canBe(), 7);
        due(x.seen(3, 2), 1);
        due(x.count(5), 2);
        about("32 canBe");
        due(x.canBe(), 5);
        due(x.seen(2, 2), 2);
        due(x.canBe(), 5);
        due(x.seen(1, 0), 3);
        due(x.canBe(), 4);
        due(x.seen(0, 19), 4);
        due(x.canBe(), 0);
        about("33 look");
        due(x.look(0), -1);
        due(x.look(1), -1);
        about("31 forget");
        due(x.seen(0, 0), 5);
        due(x.seen(0, 999), 6);
        due(x.seen(0, 1), -5);
        due(x.status(), -5);
        due(x.seen(0, -1), -1);
        due(x.count(3), 6);
        due(x.forget(), 6);
        due(x.status(), -1);
        due(x.forget(), 0);
        due(x.canBe(), 7);
        about("33 look");
        due(x.look(0), 0);
        due(x.look(1), 1);
        due(x.look(2), -1);
        due(x.look(-1), -1);
        GalleyRoom y = room(5, 5, 5, 5);
        y.stop(0);
        y.stop(1);
        y.stop(2);
        law(y, "costs line / 2; pays line");
        y.force(0);
        due(y.look(0), 2);
        due(y.look(1), 1);
        y.seen(1, 1);
        due(y.canBe(), 12);
        due(y.look(0), 2);
        law(y, "costs line");
        y.force(1);
        y.forget();
        due(y.look(0), 1);
        law(y, "costs 1");
        y.force(2);
        due(y.look(0), 0);
        due(y.look(1), 4);
        law(y, "costs line / 2; pays line / 2");
        y.force(3);
        due(y.look(0), 1);
        due(y.look(1), 2);
        due(new GalleyRoom().canBe(), 0);
    }

    private static void few() {
        about("34 few");
        GalleyRoom x = new GalleyRoom();
        due(x.few(0, 5), -1);
        due(x.few(21, 5), -1);
        due(x.few(1, -1), -1);
        due(x.few(1, 100), -1);
        due(x.few(20, 0), 1000000000000L);
        due(x.few(1, 2), 810000000000L);
        due(x.few(2, 2), 990000000000L);
        due(x.few(3, 2), 1000000000000L);
        // 0.9 to the 13th: 254186582832.9, the 14th of what was cut: 228767924548.8
        due(x.few(1, 12), 282429536481L);
        due(x.few(1, 13), 254186582832L);
        due(x.few(1, 14), 228767924548L);
        x.terms(1, 0);
        due(x.few(1, 99), 1000000000000L);
        x.terms(1, 10);
        due(x.few(1, 1), 0);
        due(x.few(20, 19), 1000000000000L);
        due(x.few(20, 20), 0);
    }

    private static void compare() {
        about("35 compare");
        GalleyRoom x = four();
        due(x.compare(0), -1);
        due(x.compare(-2), -1);
        due(x.compare(-1), 1);
        law(x, "costs 5");
        law(x, "bars");
        due(x.compare(0), 10);
        due(x.compare(1), -1);
        x.force(1);
        due(x.compare(0), 10);
        due(x.compare(-1), 1);
        due(x.count(12), 1);
        due(x.best(-1), -1);
        GalleyRoom none = new GalleyRoom();
        due(none.compare(-1), 0);
        due(none.compare(0), -1);
        law(none, "bars");
        due(none.compare(0), 0);
        due(none.compare(1), -1);
    }

    private static void weeks() {
        about("36 weeks");
        GalleyRoom x = new GalleyRoom();
        due(x.weeks(-1, 1), -1);
        due(x.weeks(1000001, 1), -1);
        due(x.weeks(0, 0), -1);
        due(x.weeks(0, 61), -1);
        due(x.weeks(1000000, 60), -3);
        due(x.status(), -3);
        x = four();
        x.pass();
        // s: 12345, 628841, 621889: WORD 1, 1, at 1: ended after WORD 1
        due(x.weeks(0, 1), 2);
        due(x.status(), 0);
        about("37 drawn");
        int[][] drawn = {{10, 0, 0}, {8, 1, 0}, {12, 0, 0}, {5, 1, 0}};
        for (int w = 0; w < 4; w++) for (int what = 0; what < 3; what++) due(x.drawn(w, what), drawn[w][what]);
        due(x.drawn(4, 0), -1);
        due(x.drawn(-1, 0), -1);
        due(x.drawn(0, 3), -1);
        due(x.drawn(0, -1), -1);
        due(x.of(1, 3), 0);
        due(x.count(13), 1);
        due(x.count(5), 1);
        due(x.weeks(0, 61), -1);
        due(x.drawn(1, 1), 1);
        about("36 weeks: at the last PROOF");
        x.terms(0, 999);
        due(x.weeks(0, 60), 0);
        due(x.drawn(1, 1), 0);
        x.terms(0, 998);
        due(x.weeks(0, 60), 2);
        due(x.drawn(1, 1), 1);
        about("37 drawn: IMAGES do not keep it");
        x.image(0);
        x.word(7, 0, 0);
        due(x.drawn(4, 0), -1);
        x.weeks(3, 60);
        due(x.drawn(4, 1), 1);
        x.back(0);
        due(x.drawn(4, 1), 1);
        about("36 weeks: one WORD");
        GalleyRoom one = new GalleyRoom();
        one.word(20, 15, 0);
        due(one.weeks(5, 60), weeksOfOne(5, 60));
        about("36 weeks: by hand");
        weeksByHand(7, 60);
        weeksByHand(1000000, 37);
        weeksByHand(123456, 60);
    }

    /** How many LINES fit, if there is but one WORD of 20, its first part 15, in 30: it can be SPLIT and SWELLED alone. */
    private static int weeksOfOne(long s, int times) {
        int fitted = 0;
        boolean split = false;
        for (int i = 0; i < times; i++) {
            for (int k = 0; k < 3; k++) s = (s * 1103 + 12345) % 1000003;
            if (s % 4 == 2) split = !split;
            fitted += split ? 2 : 1;
        }
        return fitted;
    }

    /** The same draws, done on the room itself. */
    private static void weeksByHand(int seed, int times) {
        GalleyRoom x = four();
        law(x, "bars if proof % 3 = line");
        x.force(0);
        int told = x.weeks(seed, times);
        long s = seed;
        int fitted = 0;
        for (int i = 0; i < times; i++) {
            s = (s * 1103 + 12345) % 1000003;
            int word = (int) (s % 4);
            s = (s * 1103 + 12345) % 1000003;
            int wide = (int) (s % 20) + 1;
            s = (s * 1103 + 12345) % 1000003;
            int what = (int) (s % 4);
            if (what < 2) x.stop(word);
            else if (what == 2) x.split(word);
            else x.swell(word, wide);
            fitted += x.pass();
        }
        due(told, fitted);
        for (int w = 0; w < 4; w++) {
            due(x.drawn(w, 0), x.of(w, 0));
            due(x.drawn(w, 1), x.of(w, 3));
            due(x.drawn(w, 2), x.of(w, 4));
        }
    }

    private static void images() {
        about("38 image");
        GalleyRoom x = four();
        due(x.image(2), -1);
        due(x.image(-1), -1);
        due(x.status(), -1);
        due(x.back(0), -2);
        due(x.status(), -2);
        due(x.image(0), 0);
        due(x.status(), 0);
        about("39 back");
        due(x.back(2), -1);
        due(x.back(-1), -1);
        due(x.back(1), -2);
        law(x, "costs 1");
        x.force(0);
        x.seen(1, 1);
        x.terms(0, 5);
        x.terms(1, 5);
        x.terms(2, 5);
        x.terms(3, 55);
        x.word(9, 0, 0);
        x.stop(0);
        x.split(1);
        x.swell(2, 19);
        due(x.image(1), 0);
        type(x, "tape");
        due(x.back(0), 0);
        int[] kept = {4, 1, 0, 0, 0, 0, 4};
        for (int i = 0; i < kept.length; i++) due(x.count(i), kept[i]);
        int[] terms = {-1, 0, 1, 0, 20};
        for (int i = 0; i < terms.length; i++) due(x.count(12 + i), terms[i]);
        due(x.of(2, 0), 12);
        due(x.of(0, 3), 0);
        due(x.of(1, 4), 0);
        due(x.count(7), 4);
        due(x.count(8), 2);
        x.end(0);
        due(law(x, "costs 2"), 0);
        due(x.back(1), 0);
        due(x.count(0), 5);
        due(x.count(3), 1);
        due(x.count(4), 1);
        due(x.count(12), 0);
        due(x.count(13), 5);
        due(x.count(16), 55);
        due(x.of(2, 0), 19);
        due(x.line(0, 3), 1);
        due(x.undo(), -3);
        x.stop(0);
        due(x.back(1), 0);
        due(x.of(0, 3), 1);
        due(x.back(0), 0);
        due(x.back(0), 0);
        due(x.count(0), 4);
        about("39 back: what was SEEN, KINDS");
        x = four();
        x.stop(1);
        x.seen(0, 19);
        x.image(0);
        x.forget();
        x.seen(3, 2);
        x.seen(1, 0);
        due(x.canBe(), 2);
        x.back(0);
        due(x.canBe(), 1);
        due(x.count(3), 1);
        GalleyRoom y = room(5, 5);
        y.image(0);
        y.word(5, 0, 3);
        y.image(1);
        y.back(0);
        y.word(5, 0, 1);
        due(y.of(2, 2), 1);
        y.back(1);
        due(y.of(2, 2), 3);
    }

    private static void counts() {
        about("40 count");
        GalleyRoom x = four();
        due(x.count(-1), -1);
        due(x.count(17), -1);
        due(x.count(Integer.MAX_VALUE), -1);
        x.stop(1);
        due(x.count(1), 2);
        due(x.count(2), 2);
        x.stop(9);
        x.stop(3);
        x.terms(9, 9);
        x.law();
        x.best(99);
        x.line(99, 0);
        x.few(0, 0);
        x.end(-1);
        due(x.count(7), 1);
        due(x.count(8), 1);
        due(x.count(9), 1);
        due(x.count(10), 0);
        due(x.count(11), 1);
        about("41 status");
        due(x.status(), -6);
        x.forget();
        x.best(0);
        x.feed(0, 0, 0, 0, 0);
        x.end(-1);
        x.compare(9);
        due(x.status(), -6);
        x.undo();
        due(x.status(), 0);
        x.undo();
        due(x.status(), -3);
        x.image(0);
        due(x.status(), 0);
        x.back(1);
        due(x.status(), -2);
        x.weeks(1, 1);
        due(x.status(), 0);
        x.swell(0, 0);
        due(x.status(), -1);
        x.pass();
        due(x.status(), 0);
    }
}
