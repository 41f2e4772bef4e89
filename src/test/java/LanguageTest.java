import java.nio.file.Files;
import java.nio.file.Path;
import java.util.ArrayList;
import java.util.List;
import java.util.regex.Matcher;
import java.util.regex.Pattern;

/** What of ../shared/LANGUAGE.md can be told from the source's words. Run from the project's folder. */
public final class LanguageTest {
    private static final List<String> WRONG = new ArrayList<>();

    public static void main(String[] args) throws Exception {
        String source = Files.readString(Path.of("src/main/java/GalleyRoom.java"));
        for (char c : source.toCharArray()) if (c > 127 || c < 32 && c != '\n') WRONG.add("a sign that is none of 32 to 126");
        String code = source.replaceAll("(?s)/\\*.*?\\*/", " ").replaceAll("//[^\n]*", " ");
        String bare = code.replaceAll("\"[^\"\n]*\"", "\"\"").replaceAll("'[^'\n]*'", "' '");
        ban(bare, "rule 2, 6", "throw|throws|try|catch|finally|synchronized|assert|native|volatile|transient|hashCode|toString|getClass");
        ban(bare, "rule 3, 4", "Object|Map|HashMap|Set|Random|Thread|Runtime|Scanner|Long|Character|Boolean|Stream|var|yield|goto");
        for (String sign : new String[] {"->", "::", "@", "...", "Exact(", "System.out", "System.err", "String[]", "boolean[][]"})
            if (bare.contains(sign)) WRONG.add("not of the language: " + sign);
        Matcher imports = Pattern.compile("import ([^;]+);").matcher(bare);
        while (imports.find()) if (!imports.group(1).equals("java.util.Arrays")) WRONG.add("import " + imports.group(1));
        Matcher system = Pattern.compile("(System|Arrays|Math|Integer)\\.(\\w+)").matcher(bare);
        while (system.find())
            if (!List.of("arraycopy", "copyOf", "copyOfRange", "fill", "max", "min", "abs", "bitCount").contains(system.group(2)))
                WRONG.add("rule 4: " + system.group());
        Matcher statics = Pattern.compile("(?m)^ *(?:private |public )?static (?!final )[^(]*[;=]").matcher(bare);
        while (statics.find()) WRONG.add("rule 5: " + statics.group());
        if (Pattern.compile("static\\s*\\{").matcher(bare).find()) WRONG.add("rule 5: a static block");
        if (Pattern.compile("\"\"\\s*\\+|\\+\\s*\"\"").matcher(bare).find()) WRONG.add("rule 10: texts joined by +");
        methods(bare);
        WRONG.forEach(System.out::println);
        System.out.println(WRONG.isEmpty() ? "the source keeps to the language" : "the source does not keep to the language");
        if (!WRONG.isEmpty()) System.exit(1);
    }

    private static void ban(String code, String rule, String words) {
        Matcher m = Pattern.compile("\\b(" + words + ")\\b").matcher(code);
        while (m.find()) WRONG.add(rule + ": " + m.group());
    }

    /** At most seven parameters and some sixty lines a method. */
    private static void methods(String code) {
        Matcher m = Pattern.compile("(?m)^( {4,8})(?:private |public |static |final )*[A-Za-z]\\w*(?:\\[\\])* ?(\\w*)\\(([^)]*)\\) \\{$").matcher(code);
        int found = 0;
        while (m.find()) {
            found++;
            if (m.group(3).split(",").length > 7) WRONG.add("rule 11: parameters of " + m.group(2));
            int end = code.indexOf("\n" + m.group(1) + "}", m.end());
            long lines = code.substring(m.start(), end).lines().count();
            if (lines > 60) WRONG.add("rule 11: " + m.group(2) + " has " + lines + " lines");
        }
        if (found < 41) WRONG.add("only " + found + " methods were found");
    }
}
