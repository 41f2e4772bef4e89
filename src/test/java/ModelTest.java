import java.lang.reflect.Method;
import java.util.ArrayList;
import java.util.HashMap;
import java.util.List;
import java.util.Map;
import java.util.Random;

/** Runs of calls by chance (always the same ones) on GalleyRoom and on the Model: every answer must be alike. */
public final class ModelTest {
    private final Random by;
    private final Texts texts;
    private final GalleyRoom room = new GalleyRoom();
    private final Model model = new Model();
    private final List<String> told = new ArrayList<>();
    private static final Map<String, Method[]> METHODS = new HashMap<>();
    private static final Map<String, Integer> GOOD = new java.util.TreeMap<>();
    private static int wrong;

    private ModelTest(long seed) {
        by = new Random(seed);
        texts = new Texts(by);
    }

    public static void main(String[] args) throws Exception {
        for (Method m : GalleyRoom.class.getDeclaredMethods()) {
            if (!java.lang.reflect.Modifier.isPublic(m.getModifiers())) continue;
            METHODS.put(m.getName(), new Method[] {m, Model.class.getMethod(m.getName(), m.getParameterTypes())});
        }
        int runs = args.length > 0 ? Integer.parseInt(args[0]) : 6000;
        for (long seed = 1; seed <= runs && wrong == 0; seed++) new ModelTest(seed).run();
        if (args.length > 1) System.out.println(GOOD);
        System.out.println(wrong == 0 ? "GalleyRoom answers as the model does" : "GalleyRoom does not answer as the model does");
        if (wrong != 0) System.exit(1);
    }

    private long call(String name, int... args) throws Exception {
        Method[] both = METHODS.get(name);
        Object[] with = new Object[args.length];
        for (int i = 0; i < args.length; i++) with[i] = args[i];
        long got = ((Number) both[0].invoke(room, with)).longValue();
        long want = ((Number) both[1].invoke(model, with)).longValue();
        told.add(name + java.util.Arrays.toString(args) + " -> " + got);
        GOOD.merge(name + (got < 0 ? got : "+"), 1, Integer::sum);
        if (got != want) {
            wrong++;
            told.forEach(System.out::println);
            System.out.println("due is " + want);
        }
        return got;
    }

    private void run() throws Exception {
        int words = by.nextInt(4) == 0 ? 14 : by.nextInt(6);
        for (int i = 0; i < words && wrong == 0; i++) word();
        if (by.nextInt(2) == 0) call("terms", 3, 10 + by.nextInt(25));
        int calls = 20 + by.nextInt(100);
        for (int i = 0; i < calls && wrong == 0; i++) {
            one(by.nextInt(31));
            if (wrong == 0 && by.nextInt(3) == 0) call("status");
            if (wrong == 0 && by.nextInt(3) == 0) call("count", by.nextInt(18) - 1 + by.nextInt(2));
        }
        for (int what = 0; what <= 16 && wrong == 0; what++) call("count", what);
    }

    private int odd(int likely) {
        int n = by.nextInt(40);
        return n == 0 ? -1 : n == 1 ? likely : n == 2 ? Integer.MIN_VALUE : n == 3 ? Integer.MAX_VALUE : by.nextInt(likely);
    }

    private int some() {
        return by.nextInt(8) == 0 ? odd(12) : by.nextInt(1 + room.count(0));
    }

    private void word() throws Exception {
        int wide = 1 + by.nextInt(by.nextInt(3) == 0 ? 20 : 9);
        call("word", wide, by.nextInt(3) == 0 ? by.nextInt(wide + 1) : 0, odd(4));
    }

    private void type(String text) throws Exception {
        call("end", 0);
        for (int at = 0; at < text.length(); at += 20) {
            int[] n = new int[5];
            for (int i = 0; i < 20; i++) n[i / 4] = n[i / 4] << 8 | (at + i < text.length() ? text.charAt(at + i) : 32);
            call("feed", n);
        }
        call("end", text.length());
        told.add(text);
    }

    private boolean fewPlaces() {
        int places = 0;
        for (int w = 0; w < room.count(0); w++) places += room.of(w, 1) > 0 ? 2 : 1;
        return places <= 10;
    }

    private void one(int which) throws Exception {
        switch (which) {
            case 0 -> { if (room.count(0) < 5 || by.nextInt(3) == 0) word(); }
            case 1 -> call("of", some(), odd(6));
            case 2, 3 -> call("line", by.nextInt(1 + room.count(1)), odd(7));
            case 4 -> call("all", odd(4));
            case 5 -> { if (by.nextInt(3) == 0) term(); }
            case 6 -> rowOrTape();
            case 7, 8 -> {
                type(texts.make(false));
                call("law");
                call("fault");
                if (by.nextInt(2) == 0) call("force", room.count(4) - 1);
            }
            case 9, 10, 11 -> {
                type(texts.make(true));
                call("orders");
                call("fault");
                call("stopped");
            }
            case 12 -> call("force", by.nextInt(8) - 1);
            case 13, 14 -> call("stop", some());
            case 15, 16 -> call("split", some());
            case 17 -> call("swell", some(), odd(22));
            case 18 -> call("pass");
            case 19 -> call("undo");
            case 20 -> { for (int i = by.nextInt(20); i > 0 && wrong == 0; i--) call(by.nextBoolean() ? "undo" : "pass"); }
            case 21, 22, 23, 24 -> paper();
            case 25 -> call("river");
            case 26 -> look();
            case 27 -> call("few", odd(21), odd(100));
            case 28 -> {
                call("weeks", odd(1000001), odd(61));
                for (int i = 0; i < 6 && wrong == 0; i++) call("drawn", some(), odd(3));
            }
            case 29 -> call("image", odd(2));
            default -> { if (by.nextInt(2) == 0) call("back", odd(2)); }
        }
    }

    private void term() throws Exception {
        int what = odd(4);
        call("terms", what, what == 0 && by.nextInt(3) == 0 ? 980 + by.nextInt(21) : what == 3 ? 9 + by.nextInt(53) : odd(11));
    }

    private void rowOrTape() throws Exception {
        switch (by.nextInt(4)) {
            case 0 -> call("feed", by.nextInt(), by.nextInt(), by.nextInt(), by.nextInt(), by.nextInt());
            case 1 -> call("end", odd(60));
            default -> {
                StringBuilder s = new StringBuilder();
                for (int i = by.nextInt(7); i > 0; i--) {
                    s.append((char) (1 + by.nextInt(12))).append((char) (by.nextInt(3) == 0 ? by.nextInt(12) : 0));
                    if (by.nextInt(10) != 0) s.append((char) by.nextInt(5));
                }
                type(s.toString());
                call("row");
                call("turned");
            }
        }
    }

    private void paper() throws Exception {
        if (!fewPlaces()) return;
        switch (by.nextInt(9)) {
            case 0 -> { for (int i = -2; i < 11 && wrong == 0; i++) call("best", i); }
            case 1 -> { for (int i = -1; i < 11 && wrong == 0; i++) call("just", i); }
            case 2 -> call("fewest");
            case 3 -> call("most");
            case 4 -> call("ways");
            case 5 -> call("richest");
            case 6 -> { if (by.nextInt(3) == 0) call("narrow", by.nextInt(4) == 0 ? odd(25) : by.nextInt(8)); }
            case 7 -> call("leaveOut", by.nextInt(5) - 1);
            default -> call("compare", by.nextInt(8) - 1);
        }
    }

    private void look() throws Exception {
        if (by.nextInt(2) == 0) call("forget");
        for (int i = by.nextInt(3); i > 0; i--) {
            int fact = odd(4);
            int what = fact == 0 ? 1 : fact == 1 ? 3 : fact == 2 ? 4 : 2;
            int real = room.line(by.nextInt(3), what);
            call("seen", fact, by.nextInt(4) == 0 ? odd(1000) : real);
        }
        call("canBe");
        call("look", by.nextInt(2));
        call("look", by.nextInt(5) - 1);
    }
}
