import java.util.ArrayList;
import java.util.HashMap;
import java.util.List;
import java.util.Map;
import java.util.TreeSet;

/**
 * A second, slow reading of the document to compare GalleyRoom with: every SETTING is tried, every change is undone
 * by a copy of what was, TEXTS are trees.
 */
final class Model {
    static final int NONE = -1;

    static final class Word {
        int wide, splits, kind;
        boolean ends, split;

        Word copy() {
            Word w = new Word();
            w.wide = wide;
            w.splits = splits;
            w.kind = kind;
            w.ends = ends;
            w.split = split;
            return w;
        }
    }

    static final class State {
        List<Word> words = new ArrayList<>();
        int[] terms = {0, 1, 0, 30};
        List<int[]> seen = new ArrayList<>();
        List<List<ModelText.Clause>> laws = new ArrayList<>();
        int force = NONE;

        State copy() {
            State s = new State();
            for (Word w : words) s.words.add(w.copy());
            s.terms = terms.clone();
            s.seen.addAll(seen);
            s.laws.addAll(laws);
            s.force = force;
            return s;
        }

        boolean ends(int w) {
            return w == words.size() - 1 || words.get(w).ends;
        }

        List<ModelText.Clause> law() {
            return force < 0 ? List.of() : laws.get(force);
        }
    }

    static final class Told {
        int place, width, pieces, costs, pays;
        boolean barred, fits;
        List<Integer> spaces = new ArrayList<>();
    }

    record Undo(int kind, State ahead) { }

    private State st = new State();
    private final State[] images = new State[2];
    private State week;
    private List<Undo> undo = new ArrayList<>();
    private final List<Integer> tape = new ArrayList<>();
    private int turned, fault = NONE, stopped = NONE, status;
    private final Map<Integer, Integer> refused = new HashMap<>();

    private int no(int why) {
        status = why;
        refused.merge(why, 1, Integer::sum);
        return why;
    }

    private int yes(int value) {
        status = 0;
        return value;
    }

    // ---- lines

    static Told tell(State s, List<ModelText.Clause> law, int measure, int from, int to, int number) {
        Told t = new Told();
        t.place = to;
        List<Integer> widths = new ArrayList<>();
        for (int w = 0; w < s.words.size(); w++) {
            Word word = s.words.get(w);
            boolean first = from < 2 * w && to >= 2 * w;
            boolean second = from <= 2 * w && to >= 2 * w + 1;
            if (first && second) widths.add(word.wide);
            else if (first) widths.add(word.splits);
            else if (second) widths.add(word.wide - word.splits);
        }
        for (int i = 0; i < widths.size(); i++) {
            if (i > 0) {
                t.spaces.add(t.width);
                t.width++;
            }
            t.width += widths.get(i);
        }
        if (to % 2 == 0) t.width++;
        t.pieces = widths.size();
        boolean last = to == 2 * s.words.size() - 1;
        Map<String, Long> facts = new HashMap<>();
        facts.put("line", (long) number);
        facts.put("pieces", (long) t.pieces);
        facts.put("short", (long) measure - t.width);
        facts.put("hyphen", to % 2 == 0 ? 1L : 0L);
        facts.put("last", last ? 1L : 0L);
        facts.put("kind", (long) s.words.get(to / 2).kind);
        facts.put("proof", (long) s.terms[0]);
        facts.put("mood", (long) s.terms[2]);
        Long costs = null, pays = null;
        for (ModelText.Clause c : law) {
            try {
                if (c.test() != null && !c.test().is(facts)) continue;
                long v = c.first() == null ? 0 : c.first().of(facts);
                if (c.verb().equals("costs")) costs = v;
                if (c.verb().equals("pays")) pays = v;
                if (c.verb().equals("bars")) t.barred = true;
            } catch (ModelText.Broken e) {
                // it does not HOLD
            }
        }
        t.costs = costs != null ? (int) Math.max(0, Math.min(999, costs)) : last || measure < t.width ? 0 : measure - t.width;
        t.pays = pays != null ? (int) Math.max(0, Math.min(99, pays)) : t.pieces;
        t.fits = t.width <= measure && !t.barred;
        return t;
    }

    static List<Told> setting(State s) {
        TreeSet<Integer> places = new TreeSet<>();
        for (int w = 0; w < s.words.size(); w++) {
            if (s.words.get(w).split) places.add(2 * w);
            if (s.ends(w)) places.add(2 * w + 1);
        }
        List<Told> lines = new ArrayList<>();
        int from = -1;
        for (int p : places) {
            lines.add(tell(s, s.law(), s.terms[3], from, p, lines.size()));
            from = p;
        }
        return lines;
    }

    static int fit(State s) {
        return (int) setting(s).stream().filter(t -> t.fits).count();
    }

    // ---- paper: every SETTING there is, in the order of their rows of PLACES

    record Sum(int costs, int pays, int lines, List<Integer> row) { }

    static List<Sum> papers(State s, List<ModelText.Clause> law, int measure) {
        List<Sum> found = new ArrayList<>();
        walk(s, law, measure, -1, new Sum(0, 0, 0, List.of()), found);
        return found;
    }

    private static void walk(State s, List<ModelText.Clause> law, int measure, int from, Sum sum, List<Sum> found) {
        int last = 2 * s.words.size() - 1;
        if (from == last) {
            found.add(sum);
            return;
        }
        for (int to = from + 1; to <= last; to++) {
            if (to % 2 == 0 && s.words.get(to / 2).splits == 0) continue;
            Told t = tell(s, law, measure, from, to, sum.lines());
            if (!t.fits) continue;
            List<Integer> row = new ArrayList<>(sum.row());
            row.add(to);
            walk(s, law, measure, to, new Sum(sum.costs() + t.costs, sum.pays() + t.pays, sum.lines() + 1, row), found);
        }
    }

    private List<Sum> papers() {
        return papers(st, st.law(), st.terms[3]);
    }

    private static Sum best(List<Sum> all) {
        Sum found = null;
        for (Sum s : all) if (found == null || s.costs() < found.costs()) found = s;
        return found;
    }

    private static int costs(List<Sum> all) {
        Sum found = best(all);
        return found == null ? NONE : found.costs();
    }

    // ---- the face

    public int word(int wide, int splits, int kind) {
        if (!good(wide, splits, kind)) return no(-1);
        if (st.words.size() == 12) return no(-5);
        add(wide, splits, kind);
        undo.clear();
        return yes(st.words.size() - 1);
    }

    private static boolean good(int wide, int splits, int kind) {
        return wide > 0 && wide < 21 && splits > -1 && splits < 20 && splits < wide && kind > -1 && kind < 4;
    }

    private void add(int wide, int splits, int kind) {
        Word w = new Word();
        w.wide = wide;
        w.splits = splits;
        w.kind = kind;
        st.words.add(w);
    }

    public int of(int word, int what) {
        if (word < 0 || word >= st.words.size()) return NONE;
        Word w = st.words.get(word);
        return what == 0 ? w.wide : what == 1 ? w.splits : what == 2 ? w.kind
            : what == 3 ? (st.ends(word) ? 1 : 0) : what == 4 ? (w.split ? 1 : 0) : NONE;
    }

    public int line(int i, int what) {
        List<Told> all = setting(st);
        if (i < 0 || i >= all.size()) return NONE;
        Told t = all.get(i);
        return what == 0 ? t.place : what == 1 ? t.width : what == 2 ? t.pieces : what == 3 ? t.costs
            : what == 4 ? t.pays : what == 5 ? (t.barred ? 1 : 0) : what == 6 ? (t.fits ? 1 : 0) : NONE;
    }

    public int all(int what) {
        List<Told> all = setting(st);
        return what == 0 ? all.stream().mapToInt(t -> t.costs).sum()
            : what == 1 ? all.stream().mapToInt(t -> t.pays).sum() : what == 2 ? fit(st) : NONE;
    }

    public int terms(int what, int value) {
        int[][] of = {{0, 999}, {0, 10}, {0, 9}, {10, 60}};
        if (what < 0 || what > 3 || value < of[what][0] || value > of[what][1]) return no(-1);
        int was = st.terms[what];
        st.terms[what] = value;
        undo.clear();
        return yes(was);
    }

    public int feed(int a, int b, int c, int d, int e) {
        if (tape.size() > 380) return NONE;
        for (int n : new int[] {a, b, c, d, e})
            for (int k = 3; k >= 0; k--) tape.add(n >>> 8 * k & 255);
        return tape.size();
    }

    public int end(int n) {
        if (n < 0 || n > tape.size()) return NONE;
        while (tape.size() > n) tape.remove(tape.size() - 1);
        return n;
    }

    public int row() {
        if (tape.isEmpty()) return no(-6);
        int came = 0;
        turned = 0;
        while (!tape.isEmpty()) {
            List<Integer> three = new ArrayList<>();
            while (three.size() < 3 && !tape.isEmpty()) three.add(tape.remove(0));
            if (three.size() == 3 && st.words.size() < 12 && good(three.get(0), three.get(1), three.get(2))) {
                add(three.get(0), three.get(1), three.get(2));
                came++;
            } else {
                turned++;
            }
        }
        undo.clear();
        return yes(came);
    }

    public int turned() {
        return turned;
    }

    private List<ModelText.Clause> read(boolean orders) {
        StringBuilder text = new StringBuilder();
        for (int b : tape) text.append((char) b);
        tape.clear();
        fault = ModelText.fault(text.toString(), orders);
        return fault == NONE ? ModelText.read(text.toString(), orders) : null;
    }

    public int law() {
        if (st.laws.size() == 6) {
            tape.clear();
            return no(-5);
        }
        List<ModelText.Clause> law = read(false);
        if (law == null) return no(-6);
        st.laws.add(law);
        return yes(st.laws.size() - 1);
    }

    public int orders() {
        stopped = NONE;
        List<ModelText.Clause> text = read(true);
        if (text == null) return no(-6);
        State ahead = st.copy();
        List<Undo> undoAhead = new ArrayList<>(undo);
        int done = 0, latest = NONE;
        for (int c = 0; c < text.size(); c++) {
            ModelText.Clause clause = text.get(c);
            for (int i = 0; i < clause.times(); i++) {
                Map<String, Long> facts = orderFacts(done, latest);
                try {
                    if (clause.test() != null && !clause.test().is(facts)) continue;
                } catch (ModelText.Broken e) {
                    continue;
                }
                int told = -9;
                try {
                    int a = clause.first() == null ? 0 : (int) clause.first().of(facts);
                    int b = clause.second() == null ? 0 : (int) clause.second().of(facts);
                    told = switch (clause.verb()) {
                        case "end" -> doStop(a);
                        case "split" -> doSplit(a);
                        case "swell" -> doSwell(a, b);
                        default -> latest = doPass();
                    };
                } catch (ModelText.Broken e) {
                    told = -9;
                }
                if (told < 0) {
                    st = ahead;
                    undo = undoAhead;
                    stopped = c;
                    return no(-3);
                }
                done++;
            }
        }
        return yes(done);
    }

    private Map<String, Long> orderFacts(int done, int latest) {
        Map<String, Long> facts = new HashMap<>();
        facts.put("proof", (long) st.terms[0]);
        facts.put("done", (long) done);
        facts.put("latest", (long) latest);
        facts.put("lines", (long) setting(st).size());
        facts.put("fit", (long) fit(st));
        for (int w = 0; w < 12; w++) {
            boolean is = w < st.words.size();
            facts.put("wide" + w, is ? st.words.get(w).wide : -1L);
            facts.put("ends" + w, is ? (st.ends(w) ? 1L : 0L) + (st.words.get(w).split ? 2L : 0L) : -1L);
        }
        return facts;
    }

    public int fault() {
        return fault;
    }

    public int stopped() {
        return stopped;
    }

    public int force(int law) {
        if (law < -1 || law >= st.laws.size()) return no(-2);
        int was = st.force;
        st.force = law;
        return yes(was);
    }

    private void keep(int kind) {
        undo.add(new Undo(kind, st.copy()));
        if (undo.size() > 16) undo.remove(0);
    }

    private int doStop(int word) {
        if (word < 0 || word >= st.words.size()) return -2;
        if (word == st.words.size() - 1) return -3;
        keep(0);
        Word w = st.words.get(word);
        w.ends = !w.ends;
        return w.ends ? 1 : 0;
    }

    private int doSplit(int word) {
        if (word < 0 || word >= st.words.size()) return -2;
        Word w = st.words.get(word);
        if (w.splits == 0) return -3;
        keep(1);
        w = st.words.get(word);
        w.split = !w.split;
        return w.split ? 1 : 0;
    }

    private int doSwell(int word, int wide) {
        if (wide < 1 || wide > 20) return -1;
        if (word < 0 || word >= st.words.size()) return -2;
        Word w = st.words.get(word);
        if (wide == w.wide || wide <= w.splits) return -3;
        keep(2);
        int was = w.wide;
        w.wide = wide;
        return was;
    }

    private int doPass() {
        if (st.terms[0] == 999) return -3;
        keep(3);
        int told = fit(st);
        st.terms[0]++;
        return told;
    }

    private int told(int v) {
        return v < 0 ? no(v) : yes(v);
    }

    public int stop(int word) {
        return told(doStop(word));
    }

    public int split(int word) {
        return told(doSplit(word));
    }

    public int swell(int word, int wide) {
        return told(doSwell(word, wide));
    }

    public int pass() {
        return told(doPass());
    }

    public int undo() {
        if (undo.isEmpty()) return no(-3);
        Undo u = undo.remove(undo.size() - 1);
        st.words = u.ahead().words;
        st.terms[0] = u.ahead().terms[0];
        return yes(u.kind());
    }

    public int best(int i) {
        Sum b = best(papers());
        if (b == null) return NONE;
        return i == NONE ? b.costs() : i < 0 || i >= b.row().size() ? NONE : b.row().get(i);
    }

    public int just(int k) {
        return costs(papers().stream().filter(s -> s.lines() == k).toList());
    }

    public int fewest() {
        return papers().stream().mapToInt(Sum::lines).min().orElse(NONE);
    }

    public int most() {
        return papers().stream().mapToInt(Sum::lines).max().orElse(NONE);
    }

    public long ways() {
        return papers().size();
    }

    public int richest() {
        return papers().stream().mapToInt(Sum::pays).max().orElse(NONE);
    }

    public int narrow(int k) {
        if (k < 0 || k > 24) return NONE;
        for (int m = 10; m <= 60; m++)
            if (papers(st, st.law(), m).stream().anyMatch(s -> s.lines() <= k)) return m;
        return NONE;
    }

    public int leaveOut(int what) {
        int found = NONE, least = NONE;
        for (int w = st.words.size() - 1; w >= 0; w--) {
            State s = st.copy();
            s.words.remove(w);
            int c = costs(papers(s, s.law(), s.terms[3]));
            if (c != NONE && (found == NONE || c <= least)) {
                found = w;
                least = c;
            }
        }
        return what == 0 ? found : what == 1 ? least : NONE;
    }

    public int river() {
        List<Told> all = setting(st);
        int most = 0;
        for (int i = 0; i < all.size(); i++)
            for (int at : all.get(i).spaces) most = Math.max(most, flow(all, i, at));
        return most;
    }

    private static int flow(List<Told> all, int i, int at) {
        int most = 0;
        if (i + 1 < all.size())
            for (int next : all.get(i + 1).spaces)
                if (Math.abs(next - at) <= 1) most = Math.max(most, flow(all, i + 1, next));
        return 1 + most;
    }

    public int seen(int fact, int n) {
        if (fact < 0 || fact > 3 || n < 0 || n > 999) return no(-1);
        if (st.seen.size() == 6) return no(-5);
        st.seen.add(new int[] {fact, n});
        return yes(st.seen.size());
    }

    public int forget() {
        int was = st.seen.size();
        st.seen.clear();
        return was;
    }

    private static int fact(Told t, int fact) {
        return fact == 0 ? t.width : fact == 1 ? t.costs : fact == 2 ? t.pays : t.pieces;
    }

    public int canBe() {
        int bits = 0;
        List<Told> all = setting(st);
        for (int i = 0; i < all.size(); i++) {
            Told t = all.get(i);
            if (st.seen.stream().allMatch(s -> fact(t, s[0]) == s[1])) bits |= 1 << i;
        }
        return bits;
    }

    public int look(int what) {
        List<Told> all = setting(st);
        int bits = canBe();
        if (bits == 0 || what < 0 || what > 1) return NONE;
        int found = NONE, least = 99;
        for (int f = 0; f < 4; f++) {
            Map<Integer, Integer> groups = new HashMap<>();
            for (int i = 0; i < all.size(); i++)
                if ((bits >> i & 1) == 1) groups.merge(fact(all.get(i), f), 1, Integer::sum);
            int most = groups.values().stream().mapToInt(x -> x).max().orElse(0);
            if (most < least) {
                least = most;
                found = f;
            }
        }
        return what == 0 ? found : least;
    }

    public long few(int k, int n) {
        if (k < 1 || k > 20 || n < 0 || n > 99) return NONE;
        long[] parts = new long[102];
        parts[0] = 1_000_000_000_000L;
        for (int i = 0; i < n; i++) {
            long[] next = new long[102];
            for (int j = 0; j <= i; j++) {
                next[j] += parts[j] * (10 - st.terms[1]) / 10;
                next[j + 1] += parts[j] * st.terms[1] / 10;
            }
            parts = next;
        }
        long sum = 0;
        for (int j = 0; j < k; j++) sum += parts[j];
        return sum;
    }

    public int compare(int law) {
        if (law < -1 || law >= st.laws.size()) return NONE;
        return costs(papers(st, law < 0 ? List.of() : st.laws.get(law), st.terms[3]));
    }

    public int weeks(int seed, int n) {
        if (seed < 0 || seed > 1_000_000 || n < 1 || n > 60) return no(-1);
        if (st.words.isEmpty()) return no(-3);
        State s = st.copy();
        long[] draw = {seed};
        int fitted = 0;
        for (int i = 0; i < n; i++) {
            if (s.terms[0] == 999) break;
            int word = draw(draw, s.words.size()), second = draw(draw, 20), last = draw(draw, 4);
            Word w = s.words.get(word);
            if (last < 2 && word < s.words.size() - 1) w.ends = !w.ends;
            if (last == 2 && w.splits > 0) w.split = !w.split;
            if (last == 3 && second + 1 > w.splits) w.wide = second + 1;
            fitted += fit(s);
            s.terms[0]++;
        }
        week = s;
        return yes(fitted);
    }

    private static int draw(long[] s, int m) {
        s[0] = (s[0] * 1103 + 12345) % 1_000_003;
        return (int) (s[0] % m);
    }

    public int drawn(int word, int what) {
        if (week == null || word < 0 || word >= week.words.size()) return NONE;
        return what == 0 ? week.words.get(word).wide : what == 1 ? (week.ends(word) ? 1 : 0)
            : what == 2 ? (week.words.get(word).split ? 1 : 0) : NONE;
    }

    public int image(int k) {
        if (k != 0 && k != 1) return no(-1);
        images[k] = st.copy();
        return yes(0);
    }

    public int back(int k) {
        if (k != 0 && k != 1) return no(-1);
        if (images[k] == null) return no(-2);
        st = images[k].copy();
        undo.clear();
        return yes(0);
    }

    public int count(int what) {
        return switch (what) {
            case 0 -> st.words.size();
            case 1 -> setting(st).size();
            case 2 -> fit(st);
            case 3 -> st.seen.size();
            case 4 -> st.laws.size();
            case 5 -> undo.size();
            case 6 -> tape.size();
            case 7, 8, 9 -> refused.getOrDefault(6 - what, 0);
            case 10, 11 -> refused.getOrDefault(5 - what, 0);
            case 12 -> st.force;
            case 13, 14, 15, 16 -> st.terms[what - 13];
            default -> NONE;
        };
    }

    public int status() {
        return status;
    }
}
