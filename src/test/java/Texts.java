import java.util.Random;

/** TEXTS by chance, most of them good ones. */
final class Texts {
    private static final String[] LAW_WORDS = {"line", "pieces", "short", "hyphen", "last", "kind", "proof", "mood"};
    private static final String[] ORDER_WORDS = {"proof", "done", "latest", "lines", "fit", "wide ", "ends "};
    private static final String[] STRAY = {"or", "and", "not", "if", "times", "to", "bars", "pass", "costs", "pays", "end",
        "split", "swell", "(", ")", "[", "]", "+", "-", "*", "/", "%", "<", ">", "=", ";", "7", "0", "1000", "1001", "12",
        "00011", "21", "20", "99999999999999999999", "line", "wide", "ends 3", "proof", "fit", "x", "A", "\n", "\u00ff", "\0", " ",
        "lines", "latest", "end3", "3end", "mood"};
    private final Random by;
    private boolean orders;

    Texts(Random random) {
        by = random;
    }

    String make(boolean asOrders) {
        orders = asOrders;
        StringBuilder text = new StringBuilder();
        int clauses = by.nextInt(40) == 0 ? 11 + by.nextInt(3) : 1 + by.nextInt(4);
        int size = by.nextInt(4);
        for (int i = 0; i < clauses; i++) text.append(i > 0 ? ";" : "").append(clause(clauses > 10 ? 0 : size));
        String made = text.toString();
        if (by.nextInt(6) == 0) made = spoil(made);
        if (by.nextInt(5) == 0) made = by.nextInt(2) == 0 ? " " + made : made + "  ";
        return made.length() > 400 ? made.substring(0, 400) : made;
    }

    private String spoil(String text) {
        StringBuilder s = new StringBuilder(text);
        for (int n = 1 + by.nextInt(2); n > 0; n--) {
            int at = by.nextInt(s.length() + 1);
            int how = by.nextInt(3);
            if (how == 0) s.insert(at, STRAY[by.nextInt(STRAY.length)]);
            else if (how == 1) s.setLength(at);
            else if (at < s.length()) s.replace(at, Math.min(s.length(), at + 1 + by.nextInt(3)), STRAY[by.nextInt(STRAY.length)]);
        }
        return s.toString();
    }

    private String clause(int size) {
        String made;
        if (orders) {
            int verb = by.nextInt(4);
            made = verb == 0 ? "end " + word(size) : verb == 1 ? "split " + word(size)
                : verb == 2 ? "swell " + word(size) + " to " + (by.nextInt(3) == 0 ? sum(size) : "" + (1 + by.nextInt(20))) : "pass";
            if (by.nextInt(3) == 0) made += " times " + (1 + by.nextInt(by.nextInt(3) == 0 ? 20 : 3));
        } else {
            int verb = by.nextInt(3);
            made = verb == 0 ? "costs " + sum(size) : verb == 1 ? "pays " + sum(size) : "bars";
            if (verb == 2 && by.nextInt(8) != 0) return made + " if " + test(size);
        }
        return by.nextInt(2) == 0 ? made : made + " if " + test(size);
    }

    private String word(int size) {
        return by.nextInt(3) == 0 ? sum(size) : "" + by.nextInt(5);
    }

    private String gap() {
        return by.nextInt(3) == 0 ? "" : " ";
    }

    private String test(int size) {
        int n = by.nextInt(size > 0 ? 8 : 3);
        if (size > 0 && n == 0) return test(size - 1) + " or " + test(size - 1);
        if (size > 0 && n == 1) return test(size - 1) + " and " + test(size - 1);
        if (n == 2) return "not " + plain(size);
        return plain(size);
    }

    private String plain(int size) {
        if (size > 0 && by.nextInt(4) == 0) return "(" + gap() + test(size - 1) + ")";
        return sum(size) + gap() + "<>=".charAt(by.nextInt(3)) + gap() + sum(size);
    }

    private String sum(int size) {
        if (by.nextInt(60) == 0) return "[[[[[[[" + "[".repeat(by.nextInt(3)) + part(0) + "]".repeat(7 + by.nextInt(3));
        StringBuilder made = new StringBuilder(part(size));
        for (int n = by.nextInt(size + 2); n > 0; n--)
            made.append(gap()).append("+-*/%*".charAt(by.nextInt(6))).append(gap()).append(part(size));
        return made.toString();
    }

    private String part(int size) {
        int n = by.nextInt(6);
        if (n == 0 && size > 0) return "[" + gap() + sum(size - 1) + gap() + "]";
        if (n < 3) return by.nextInt(8) == 0 ? "" + by.nextInt(1001) : "" + by.nextInt(12);
        if (!orders) return LAW_WORDS[by.nextInt(LAW_WORDS.length)];
        String word = ORDER_WORDS[by.nextInt(ORDER_WORDS.length)];
        return word.endsWith(" ") ? word.substring(0, 4) + " " + by.nextInt(by.nextInt(5) == 0 ? 12 : 5) : word;
    }
}
