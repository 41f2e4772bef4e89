import java.lang.reflect.Method;
import java.nio.file.Files;
import java.nio.file.Path;
import java.util.Set;
import java.util.TreeSet;
import java.util.regex.Matcher;
import java.util.regex.Pattern;

/** The calls that README.md shows answer as it says, and it names every call of the face. Run from the project's folder. */
public final class ReadmeTest extends Bench {
    private static final Pattern CALL = Pattern.compile("room\\.(\\w+)\\((.*)\\); +// (-?\\d+).*");
    private static final Pattern TYPED = Pattern.compile("type\\(room, \"(.*)\"\\);");

    public static void main(String[] args) throws Exception {
        String page = Files.readString(Path.of("README.md"));
        GalleyRoom room = new GalleyRoom();
        int calls = 0;
        for (String line : page.lines().toList()) {
            Matcher call = CALL.matcher(line);
            Matcher typed = TYPED.matcher(line);
            if (call.matches()) {
                about("README: " + line.strip());
                due(answerOf(room, call.group(1), call.group(2)), Long.parseLong(call.group(3)));
                calls++;
            } else if (typed.matches()) {
                type(room, typed.group(1));
            }
        }
        about("README: calls with their answers were found");
        due(calls > 30 ? 1 : 0, 1);
        about("README: it names every call");
        due(unnamed(page).size(), 0);
        finish();
    }

    private static long answerOf(GalleyRoom room, String name, String given) throws Exception {
        String[] numbers = given.isEmpty() ? new String[0] : given.split(", ");
        Object[] with = new Object[numbers.length];
        Class<?>[] types = new Class<?>[numbers.length];
        for (int i = 0; i < numbers.length; i++) {
            with[i] = numbers[i].equals("GalleyRoom.NONE") ? GalleyRoom.NONE : Integer.parseInt(numbers[i]);
            types[i] = int.class;
        }
        Method called = GalleyRoom.class.getMethod(name, types);
        return ((Number) called.invoke(room, with)).longValue();
    }

    private static Set<String> unnamed(String page) {
        Set<String> names = new TreeSet<>();
        for (Method m : GalleyRoom.class.getDeclaredMethods())
            if (java.lang.reflect.Modifier.isPublic(m.getModifiers()) && !page.contains("`" + m.getName() + "`")) names.add(m.getName());
        if (!names.isEmpty()) System.out.println("not named: " + names);
        return names;
    }
}
