import java.lang.reflect.Constructor;
import java.lang.reflect.Field;
import java.lang.reflect.Member;
import java.lang.reflect.Method;
import java.lang.reflect.Modifier;
import java.util.Arrays;
import java.util.Set;
import java.util.TreeSet;

/** The class has the document's face and nothing else that can be seen from outside. */
public final class FaceTest {
    private static final String FACE = """
        int word(int,int,int) int of(int,int) int line(int,int) int all(int) int terms(int,int) int feed(int,int,int,int,int)
        int end(int) int row() int turned() int law() int orders() int fault() int stopped() int force(int) int stop(int)
        int split(int) int swell(int,int) int pass() int undo() int best(int) int just(int) int fewest() int most() long ways()
        int richest() int narrow(int) int leaveOut(int) int river() int seen(int,int) int forget() int canBe() int look(int)
        long few(int,int) int compare(int) int weeks(int,int) int drawn(int,int) int image(int) int back(int) int count(int)
        int status()""";

    public static void main(String[] args) {
        Set<String> want = new TreeSet<>(Arrays.asList(FACE.replaceAll("\\s+(int|long) ", "\n$1 ").strip().split("\n")));
        Set<String> got = new TreeSet<>();
        Set<String> wrong = new TreeSet<>();
        Class<?> c = GalleyRoom.class;
        for (Method m : c.getDeclaredMethods()) {
            if (!Modifier.isPrivate(m.getModifiers())) got.add(told(m));
            if (!Modifier.isPrivate(m.getModifiers()) && (!Modifier.isPublic(m.getModifiers()) || Modifier.isStatic(m.getModifiers()))) wrong.add(told(m));
        }
        if (want.size() != 40) wrong.add("the test's own face has " + want.size() + " methods");
        if (!want.equals(got)) wrong.add("methods: " + got);
        for (Member m : c.getDeclaredFields())
            if (!Modifier.isPrivate(m.getModifiers()) && !m.getName().equals("NONE")) wrong.add(m.getName());
        Constructor<?>[] made = c.getDeclaredConstructors();
        if (made.length != 1 || made[0].getParameterCount() != 0 || !Modifier.isPublic(made[0].getModifiers())) wrong.add("constructor");
        if (!Modifier.isFinal(c.getModifiers()) || !Modifier.isPublic(c.getModifiers())) wrong.add("public final class");
        wrong.addAll(inside(c, want));
        try {
            Field none = c.getDeclaredField("NONE");
            int all = Modifier.PUBLIC | Modifier.STATIC | Modifier.FINAL;
            if (none.getModifiers() != all || none.getType() != int.class || none.getInt(null) != -1) wrong.add("NONE");
        } catch (ReflectiveOperationException e) {
            wrong.add("NONE: " + e);
        }
        wrong.forEach(System.out::println);
        System.out.println(wrong.isEmpty() ? "the face is the document's" : "the face is not the document's");
        if (!wrong.isEmpty()) System.exit(1);
    }

    /** Classes inside are static, not public, and bear no method with a name of the face. */
    private static Set<String> inside(Class<?> c, Set<String> face) {
        Set<String> wrong = new TreeSet<>();
        Set<String> names = new TreeSet<>();
        for (String f : face) names.add(f.replaceAll("^\\w+ |\\(.*", ""));
        if (c.getDeclaredClasses().length > 12) wrong.add("classes inside: " + c.getDeclaredClasses().length);
        for (Class<?> k : c.getDeclaredClasses()) {
            if (!Modifier.isStatic(k.getModifiers()) || Modifier.isPublic(k.getModifiers())) wrong.add(k.getName());
            for (Method m : k.getDeclaredMethods()) if (names.contains(m.getName())) wrong.add(k.getName() + "." + m.getName());
            long fields = Arrays.stream(k.getDeclaredFields()).filter(f -> !Modifier.isStatic(f.getModifiers())).count();
            if (fields > 20) wrong.add(k.getName() + " has " + fields + " fields");
        }
        for (Method m : c.getDeclaredMethods())
            if (Modifier.isPrivate(m.getModifiers()) && names.contains(m.getName())) wrong.add("private " + m.getName());
        return wrong;
    }

    private static String told(Method m) {
        StringBuilder s = new StringBuilder(m.getReturnType() + " " + m.getName() + "(");
        for (Class<?> p : m.getParameterTypes()) s.append(s.charAt(s.length() - 1) == '(' ? "" : ",").append(p);
        return s.append(")").toString();
    }
}
