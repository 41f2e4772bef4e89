import java.util.ArrayList;
import java.util.List;
import java.util.Map;
import java.util.Random;
import java.util.TreeMap;

/**
 * SETTINGS on paper where they are too many to try one by one, as the Model does: up to twelve WORDS, most of which can
 * be split. They are worked out from the last PLACE to the first here, GalleyRoom does it the other way round.
 */
public final class ManyPlacesTest extends Bench {
    /** Of all SETTINGS from a PLACE on that have just so many LINES: the BEST, the most they PAY, how many there are. */
    record Rest(int costs, List<Integer> row, int pays, long ways) { }

    private final Random by;
    private final Texts texts;
    private GalleyRoom room;
    private Model.State state;

    private ManyPlacesTest(long seed) {
        by = new Random(seed);
        texts = new Texts(by);
    }

    public static void main(String[] args) {
        int runs = args.length > 0 ? Integer.parseInt(args[0]) : 400;
        for (long seed = 1; seed <= runs; seed++) {
            ManyPlacesTest test = new ManyPlacesTest(seed);
            about("by chance, seed " + seed + ", as every SETTING tried tells");
            test.fill(5);
            test.holdAgainstTheModel();
            about("by chance, seed " + seed + ", with many PLACES");
            test.fill(12);
            test.hold();
        }
        finish();
    }

    private void fill(int mostWords) {
        room = new GalleyRoom();
        state = new Model.State();
        int most = 2 + by.nextInt(by.nextInt(3) == 0 ? 19 : 6);
        for (int i = mostWords - by.nextInt(4); i > 0; i--) {
            Model.Word w = new Model.Word();
            w.wide = 1 + by.nextInt(most);
            w.splits = by.nextInt(5) == 0 ? 0 : by.nextInt(w.wide);
            w.kind = by.nextInt(4);
            state.words.add(w);
            room.word(w.wide, w.splits, w.kind);
        }
        int[] terms = {by.nextInt(1000), by.nextInt(11), by.nextInt(10), 10 + by.nextInt(51)};
        for (int i = 0; i < 4; i++) room.terms(i, state.terms[i] = terms[i]);
        for (int i = by.nextInt(3); i > 0; i--) {
            String text = texts.make(false);
            if (law(room, text) < 0) continue;
            state.laws.add(ModelText.read(text, false));
        }
        state.force = by.nextInt(state.laws.size() + 1) - 1;
        room.force(state.force);
    }

    private static Map<Integer, Rest> rests(Model.State s, List<ModelText.Clause> law, int measure) {
        int last = 2 * s.words.size() - 1;
        return restsFrom(s, law, measure, new int[] {-1, 0, last}, new TreeMap<>());
    }

    /** from: the PLACE, how many LINES there are ahead of it, the last PLACE. */
    private static Map<Integer, Rest> restsFrom(Model.State s, List<ModelText.Clause> law, int measure, int[] from,
            Map<Integer, Map<Integer, Rest>> known) {
        int key = from[0] * 100 + from[1];
        if (known.containsKey(key)) return known.get(key);
        Map<Integer, Rest> found = new TreeMap<>();
        if (from[0] == from[2]) found.put(0, new Rest(0, List.of(), 0, 1));
        for (int to = from[0] + 1; to <= from[2]; to++) {
            if (to % 2 == 0 && s.words.get(to / 2).splits == 0) continue;
            Model.Told t = Model.tell(s, law, measure, from[0], to, from[1]);
            if (!t.fits) continue;
            for (var behind : restsFrom(s, law, measure, new int[] {to, from[1] + 1, from[2]}, known).entrySet()) {
                Rest r = behind.getValue();
                List<Integer> row = new ArrayList<>(List.of(to));
                row.addAll(r.row());
                // PLACES are tried as they rise: one that costs as much comes behind the one that is there.
                found.merge(behind.getKey() + 1, new Rest(r.costs() + t.costs, row, r.pays() + t.pays, r.ways()),
                    (a, b) -> new Rest(Math.min(a.costs(), b.costs()), b.costs() < a.costs() ? b.row() : a.row(),
                        Math.max(a.pays(), b.pays()), a.ways() + b.ways()));
            }
        }
        known.put(key, found);
        return found;
    }

    private static boolean comesFirst(Rest a, Rest b) {
        if (a.costs() != b.costs()) return a.costs() < b.costs();
        int i = 0;
        while (a.row().get(i).equals(b.row().get(i))) i++;
        return a.row().get(i) < b.row().get(i);
    }

    private static Rest best(Map<Integer, Rest> all) {
        Rest found = null;
        for (Rest r : all.values()) if (found == null || comesFirst(r, found)) found = r;
        return found;
    }

    private static int costs(Map<Integer, Rest> all) {
        Rest found = best(all);
        return found == null ? -1 : found.costs();
    }

    private void holdAgainstTheModel() {
        Map<Integer, Rest> all = rests(state, state.law(), state.terms[3]);
        List<Model.Sum> tried = Model.papers(state, state.law(), state.terms[3]);
        due(all.values().stream().mapToLong(Rest::ways).sum(), tried.size());
        Model.Sum first = null;
        for (Model.Sum s : tried) if (first == null || s.costs() < first.costs()) first = s;
        due(costs(all), first == null ? -1 : first.costs());
        due(first == null || first.row().equals(best(all).row()) ? 1 : 0, 1);
        hold();
    }

    private void hold() {
        Map<Integer, Rest> all = rests(state, state.law(), state.terms[3]);
        Rest best = best(all);
        due(room.best(-1), costs(all));
        for (int i = 0; i <= 24; i++) due(room.best(i), best == null || i >= best.row().size() ? -1 : best.row().get(i));
        for (int k = 0; k <= 24; k++) due(room.just(k), all.containsKey(k) ? all.get(k).costs() : -1);
        due(room.fewest(), all.keySet().stream().mapToInt(k -> k).min().orElse(-1));
        due(room.most(), all.keySet().stream().mapToInt(k -> k).max().orElse(-1));
        due(room.ways(), all.values().stream().mapToLong(Rest::ways).sum());
        due(room.richest(), all.values().stream().mapToInt(Rest::pays).max().orElse(-1));
        for (int law = -1; law < state.laws.size(); law++)
            due(room.compare(law), costs(rests(state, law < 0 ? List.of() : state.laws.get(law), state.terms[3])));
        narrow(by.nextInt(25));
        leaveOut();
    }

    private void narrow(int k) {
        int found = -1;
        for (int m = 10; m <= 60 && found < 0; m++)
            if (rests(state, state.law(), m).keySet().stream().anyMatch(lines -> lines <= k)) found = m;
        due(room.narrow(k), found);
    }

    private void leaveOut() {
        int left = -1, least = -1;
        for (int w = 0; w < state.words.size(); w++) {
            Model.State s = state.copy();
            s.words.remove(w);
            int costs = costs(rests(s, s.law(), s.terms[3]));
            if (costs < 0 || left >= 0 && costs >= least) continue;
            left = w;
            least = costs;
        }
        due(room.leaveOut(0), left);
        due(room.leaveOut(1), least);
    }
}
