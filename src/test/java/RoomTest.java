import java.lang.management.ManagementFactory;
import java.lang.reflect.InvocationTargetException;
import java.lang.reflect.Method;
import java.lang.reflect.Modifier;
import java.util.ArrayList;
import java.util.Comparator;
import java.util.List;
import java.util.Random;

/** No call throws, whatever it is given in whatever state; and calls make next to nothing that takes room. */
public final class RoomTest {
    private static final int[] EDGES = {0, 1, 2, 3, 4, 5, 6, 10, 11, 12, 20, 21, 24, 25, 30, 60, 61, 99, 100, 399, 400, 401, 999, 1000,
        1000000, 1000001, -1, -2, -3, Integer.MAX_VALUE, Integer.MIN_VALUE, Integer.MAX_VALUE - 20, Integer.MIN_VALUE + 1};
    private static int wrong;

    public static void main(String[] args) throws Exception {
        List<Method> face = new ArrayList<>();
        for (Method m : GalleyRoom.class.getDeclaredMethods()) if (Modifier.isPublic(m.getModifiers())) face.add(m);
        face.sort(Comparator.comparing(Method::getName));
        for (int seed = 1; seed <= 300 && wrong == 0; seed++) throwsNothing(face, new Random(seed));
        takesLittleRoom();
        System.out.println(wrong == 0 ? "no call throws, none takes much room" : "a call throws, or takes too much room");
        if (wrong != 0) System.exit(1);
    }

    private static void throwsNothing(List<Method> face, Random by) throws IllegalAccessException {
        GalleyRoom x = new GalleyRoom();
        Texts texts = new Texts(by);
        for (int i = 0; i < 512 && wrong == 0; i++) {
            if (by.nextInt(4) == 0) x.word(1 + by.nextInt(20), by.nextInt(4), by.nextInt(4));
            if (by.nextInt(6) == 0) type(x, texts.make(by.nextBoolean()));
            Method m = face.get(by.nextInt(face.size()));
            Object[] with = new Object[m.getParameterCount()];
            for (int k = 0; k < with.length; k++)
                with[k] = by.nextInt(3) == 0 ? EDGES[by.nextInt(EDGES.length)] : by.nextInt(5) == 0 ? by.nextInt() : by.nextInt(13) - 1;
            try {
                m.invoke(x, with);
            } catch (InvocationTargetException e) {
                wrong++;
                System.out.println(m.getName() + java.util.Arrays.toString(with) + ": " + e.getCause());
            }
        }
    }

    private static void type(GalleyRoom x, String text) {
        x.end(0);
        for (int at = 0; at < text.length(); at += 20) {
            int[] n = new int[5];
            for (int i = 0; i < 20; i++) n[i / 4] = n[i / 4] << 8 | (at + i < text.length() ? text.charAt(at + i) : 32);
            x.feed(n[0], n[1], n[2], n[3], n[4]);
        }
        x.end(text.length());
    }

    private static long made() {
        return ((com.sun.management.ThreadMXBean) ManagementFactory.getThreadMXBean()).getCurrentThreadAllocatedBytes();
    }

    private static void atMost(String what, long bytes, long most) {
        if (bytes > most) {
            wrong++;
            System.out.println(what + " takes " + bytes + " bytes, more than " + most);
        }
    }

    private static void takesLittleRoom() {
        GalleyRoom x = new GalleyRoom();
        made();
        long before = made();
        x = new GalleyRoom();
        atMost("a new object", made() - before, 40000);
        for (int i = 0; i < 12; i++) x.word(2, 1, i % 4);
        String law = "costs line*short+pieces*hyphen-kind;bars if line=short and not(mood=1 or proof=7)";
        before = made();
        type(x, law);
        x.law();
        atMost("a LAW", made() - before, 4000);
        x.force(0);
        x.terms(3, 60);
        allCalls(x);
        before = made();
        for (int i = 0; i < 20; i++) allCalls(x);
        atMost("all calls, 20 times", made() - before, 40000);
    }

    private static void allCalls(GalleyRoom x) {
        x.best(3);
        x.just(3);
        x.fewest();
        x.most();
        x.ways();
        x.richest();
        x.narrow(1);
        x.leaveOut(0);
        x.compare(-1);
        x.river();
        x.canBe();
        x.look(0);
        x.few(20, 99);
        x.weeks(7, 60);
        x.line(0, 3);
        x.all(0);
        x.image(0);
        x.back(0);
        x.stop(0);
        x.split(0);
        x.swell(0, 9);
        x.pass();
        x.undo();
        type(x, "pass times 20;end 0 times 20;split 1 times 20;pass if fit>lines*2");
        x.orders();
        type(x, "nothing");
        x.law();
    }
}
