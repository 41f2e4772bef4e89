import java.util.function.Supplier;

/** What the tests by hand share: rows held against what is due, TEXTS put on the TAPE, rooms to begin with. */
abstract class Bench {
    static final int LOWEST = Integer.MIN_VALUE;
    static final int HIGHEST = Integer.MAX_VALUE;
    private static int wrong;
    private static int told;
    private static String sentence = "";
    private static int row;

    /** The sentence of the document (or the promise) that the rows from here on are about. */
    static void about(String words) {
        sentence = words;
        row = 0;
        told++;
    }

    static void due(long got, long want) {
        row++;
        if (got != want) {
            wrong++;
            System.out.println(sentence + ", row " + row + ": answered " + got + ", due is " + want);
        }
    }

    static void finish() {
        System.out.println(wrong == 0 ? told + " sentences hold" : wrong + " answers are not as due");
        if (wrong != 0) System.exit(1);
    }

    /** Behind what is on the TAPE. */
    static void type(GalleyRoom x, String text) {
        int had = x.count(6);
        for (int at = 0; at < text.length(); at += 20) {
            int[] four = new int[5];
            for (int i = 0; i < 20; i++) four[i / 4] = four[i / 4] << 8 | (at + i < text.length() ? text.charAt(at + i) & 255 : 0);
            x.feed(four[0], four[1], four[2], four[3], four[4]);
        }
        if (x.end(had + text.length()) != had + text.length()) throw new IllegalStateException("no room on the TAPE");
    }

    static int law(GalleyRoom x, String text) {
        type(x, text);
        return x.law();
    }

    static int orders(GalleyRoom x, String text) {
        type(x, text);
        return x.orders();
    }

    /** A LAW is read and in FORCE at once. */
    static GalleyRoom by(GalleyRoom x, String text) {
        int law = law(x, text);
        if (law < 0 || x.force(law) < GalleyRoom.NONE) throw new IllegalStateException("no LAW: " + text);
        return x;
    }

    /** WORDS of these widths that can't be split. */
    static GalleyRoom room(int... wides) {
        GalleyRoom x = new GalleyRoom();
        for (int wide : wides) x.word(wide, 0, 0);
        return x;
    }

    /** The four WORDS of the document's first test, in a measure of 20. */
    static GalleyRoom four() {
        GalleyRoom x = new GalleyRoom();
        x.word(10, 0, 0);
        x.word(8, 4, 1);
        x.word(12, 6, 2);
        x.word(5, 0, 3);
        x.terms(3, 20);
        return x;
    }

    /** As many WORDS as there can be, all of which can be split. */
    static GalleyRoom twelve(int wide, int splits, int measure) {
        GalleyRoom x = new GalleyRoom();
        for (int i = 0; i < 12; i++) x.word(wide, splits, i % 4);
        x.terms(3, measure);
        return x;
    }

    /** What a LINE of a SETTING costs by "costs" and a SUM, with or without "if". */
    static int costs(GalleyRoom x, int line, String sum) {
        x.image(1);
        by(x, "costs " + sum);
        int told = x.line(line, 3);
        x.back(1);
        return told;
    }

    /** What a word of ORDERS tells, -1 .. 30, in a new room behind ORDERS of the same TEXT. */
    static int asks(Supplier<GalleyRoom> room, String ahead, String what) {
        int without = orders(room.get(), ahead + "pass if 1 = 2");
        for (int v = -1; v <= 30; v++) {
            String is = v < 0 ? "0 - 1" : "" + v;
            if (orders(room.get(), ahead + "pass if " + what + " = " + is) == without + 1) return v;
        }
        return -99;
    }
}
