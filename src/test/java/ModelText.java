import java.util.ArrayList;
import java.util.HashMap;
import java.util.HashSet;
import java.util.List;
import java.util.Map;
import java.util.Set;

/** TEXTS for the Model: FAULT by trying all that the grammar allows at once, what they mean by trees. */
final class ModelText {
    static final class Broken extends Exception {
        private static final long serialVersionUID = 1L;
    }

    interface Sum {
        long of(Map<String, Long> facts) throws Broken;
    }

    interface Test {
        boolean is(Map<String, Long> facts) throws Broken;
    }

    record Clause(String verb, Sum first, Sum second, int times, Test test) { }

    record Token(String text, int place) { }

    static List<Token> tokens(String text) {
        List<Token> found = new ArrayList<>();
        var m = java.util.regex.Pattern.compile("[a-z]+|[0-9]+|[^ ]", java.util.regex.Pattern.DOTALL).matcher(text);
        while (m.find()) found.add(new Token(m.group(), m.start()));
        return found;
    }

    // ---- FAULT: the grammar as rules; a configuration is what is still to come, and what was counted

    private static final Map<String, String[]> RULES = new HashMap<>();

    static {
        rule("LAWS", "RULE ENDR");
        rule("ENDR", "", "; RULE ENDR");
        rule("RULE", "+C costs SUM IF", "+C pays SUM IF", "+C bars IF");
        rule("ORDERS", "ORDER ENDO");
        rule("ENDO", "", "; ORDER ENDO");
        rule("ORDER", "+C end SUM TIMES IF", "+C split SUM TIMES IF", "+C swell SUM to SUM TIMES IF", "+C pass TIMES IF");
        rule("TIMES", "", "times #1-20");
        rule("IF", "", "if TEST");
        rule("TEST", "BOTH ORS");
        rule("ORS", "", "or BOTH ORS");
        rule("BOTH", "PLAIN ANDS");
        rule("ANDS", "", "and PLAIN ANDS");
        rule("PLAIN", "not PLAIN", "+B ( TEST ) -B", "SUM CMP SUM");
        rule("CMP", "<", ">", "=");
        rule("SUM", "TERM ADDS");
        rule("ADDS", "", "+ TERM ADDS", "- TERM ADDS");
        rule("TERM", "PART MULS");
        rule("MULS", "", "* PART MULS", "/ PART MULS", "% PART MULS");
        rule("PART", "+P #0-1000", "+B [ SUM ] -B", "+P WORD");
        rule("LAWWORD", "line", "pieces", "short", "hyphen", "last", "kind", "proof", "mood");
        rule("ORDERWORD", "proof", "done", "latest", "lines", "fit", "wide #0-11", "ends #0-11");
    }

    private static void rule(String name, String... ways) {
        RULES.put(name, ways);
    }

    record Config(List<String> stack, int clauses, int parts, int brackets) { }

    static int fault(String text, boolean orders) {
        Set<Config> now = new HashSet<>();
        now.add(new Config(List.of(orders ? "ORDERS" : "LAWS"), 0, 0, 0));
        for (Token t : tokens(text)) {
            Set<Config> next = new HashSet<>();
            for (Config c : now) step(c, t.text(), orders, next);
            if (next.isEmpty()) return t.place();
            now = next;
        }
        Set<Config> ended = new HashSet<>();
        for (Config c : now) step(c, null, orders, ended);
        return ended.isEmpty() ? text.length() : -1;
    }

    /** All configurations behind a TOKEN (null: the end, at which nothing may be to come). */
    private static void step(Config c, String token, boolean orders, Set<Config> next) {
        if (c.stack().isEmpty()) {
            if (token == null) next.add(c);
            return;
        }
        String top = c.stack().get(0);
        List<String> rest = c.stack().subList(1, c.stack().size());
        if (top.equals("WORD")) top = orders ? "ORDERWORD" : "LAWWORD";
        if (RULES.containsKey(top)) {
            for (String way : RULES.get(top)) {
                List<String> stack = new ArrayList<>();
                for (String s : way.split(" ")) if (!s.isEmpty()) stack.add(s);
                stack.addAll(rest);
                step(new Config(stack, c.clauses(), c.parts(), c.brackets()), token, orders, next);
            }
        } else if (top.equals("+C")) {
            if (c.clauses() < 12) step(new Config(rest, c.clauses() + 1, c.parts(), c.brackets()), token, orders, next);
        } else if (top.equals("+P")) {
            if (c.parts() < 50) step(new Config(rest, c.clauses(), c.parts() + 1, c.brackets()), token, orders, next);
        } else if (top.equals("+B")) {
            if (c.brackets() < 8) step(new Config(rest, c.clauses(), c.parts(), c.brackets() + 1), token, orders, next);
        } else if (top.equals("-B")) {
            step(new Config(rest, c.clauses(), c.parts(), c.brackets() - 1), token, orders, next);
        } else if (token != null && fits(top, token)) {
            next.add(new Config(rest, c.clauses(), c.parts(), c.brackets()));
        }
    }

    private static boolean fits(String wanted, String token) {
        if (!wanted.startsWith("#")) return wanted.equals(token);
        if (!token.matches("[0-9]+")) return false;
        String[] of = wanted.substring(1).split("-");
        var n = new java.math.BigInteger(token);
        return n.compareTo(new java.math.BigInteger(of[0])) >= 0 && n.compareTo(new java.math.BigInteger(of[1])) <= 0;
    }

    // ---- what a TEXT without a FAULT means

    private final List<Token> tokens;
    private int at;

    private ModelText(List<Token> all) {
        tokens = all;
    }

    static List<Clause> read(String text, boolean orders) {
        ModelText t = new ModelText(tokens(text));
        List<Clause> all = new ArrayList<>();
        do {
            all.add(t.clause(orders));
        } while (t.take(";"));
        return all;
    }

    private String next() {
        return at < tokens.size() ? tokens.get(at).text() : "";
    }

    private boolean take(String text) {
        if (!next().equals(text)) return false;
        at++;
        return true;
    }

    private String take() {
        return tokens.get(at++).text();
    }

    private Clause clause(boolean orders) {
        String verb = take();
        Sum first = verb.equals("bars") || verb.equals("pass") ? null : sum();
        Sum second = take("to") ? sum() : null;
        int times = take("times") ? Integer.parseInt(take()) : 1;
        Test test = take("if") ? test() : null;
        return new Clause(verb, first, second, times, test);
    }

    private Test test() {
        Test a = both();
        while (take("or")) {
            Test l = a, r = both();
            a = f -> l.is(f) || r.is(f);
        }
        return a;
    }

    private Test both() {
        Test a = plain();
        while (take("and")) {
            Test l = a, r = plain();
            a = f -> l.is(f) && r.is(f);
        }
        return a;
    }

    private Test plain() {
        if (take("not")) {
            Test a = plain();
            return f -> !a.is(f);
        }
        if (take("(")) {
            Test a = test();
            take(")");
            return a;
        }
        Sum a = sum();
        String how = take();
        Sum b = sum();
        return f -> {
            long x = a.of(f), y = b.of(f);
            return how.equals("<") ? x < y : how.equals(">") ? x > y : x == y;
        };
    }

    private static long within(long v) throws Broken {
        if (Math.abs(v) > 1_000_000_000L) throw new Broken();
        return v;
    }

    private Sum sum() {
        Sum a = term();
        while (next().equals("+") || next().equals("-")) {
            boolean plus = take().equals("+");
            Sum l = a, r = term();
            a = f -> {
                long x = l.of(f), y = r.of(f);
                return within(plus ? x + y : x - y);
            };
        }
        return a;
    }

    private Sum term() {
        Sum a = part();
        while (next().equals("*") || next().equals("/") || next().equals("%")) {
            String how = take();
            Sum l = a, r = part();
            a = f -> {
                long x = l.of(f), y = r.of(f);
                if (how.equals("*")) return within(x * y);
                if (y == 0) throw new Broken();
                return how.equals("/") ? x / y : x - x / y * y;
            };
        }
        return a;
    }

    private Sum part() {
        if (take("[")) {
            Sum a = sum();
            take("]");
            return a;
        }
        String t = take();
        if (t.matches("[0-9]+")) {
            long v = new java.math.BigInteger(t).longValueExact();
            return f -> v;
        }
        String key = t.equals("wide") || t.equals("ends") ? t + new java.math.BigInteger(take()) : t;
        return f -> f.get(key);
    }
}
