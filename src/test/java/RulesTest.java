import java.lang.reflect.Constructor;
import java.lang.reflect.Field;
import java.lang.reflect.Method;
import java.lang.reflect.Modifier;
import java.nio.file.Files;
import java.nio.file.Path;
import java.util.ArrayList;
import java.util.HashSet;
import java.util.List;
import java.util.Set;
import java.util.TreeSet;
import java.util.regex.Matcher;
import java.util.regex.Pattern;

/** What of LANGUAGE.md can be seen from the source and from the compiled classes. */
public final class RulesTest {
    private static final Due DUE = new Due();
    private static final String FACE = "feed end text fault stage deed stop state keep need behind save duel odds"
        + " log fits drawn load after least count image again";
    private static final String[] BANNED = {"throw", "throws", "try", "catch", "finally", "synchronized", "assert", "import",
        "package", "System.out", "protected", "native", "volatile", "transient", "Exact\\(", "->", "::", "Object", "Exception"};

    public static void main(String[] args) throws Exception {
        String source = Files.readString(Path.of("src/main/java/PlateRunner.java"));
        String code = source.replaceAll("(?s)/\\*.*?\\*/", "").replaceAll("//[^\n]*", "").replaceAll("\"[^\"\n]*\"", "\"\"");
        for (String word : BANNED) {
            String edge = word.matches("[a-zA-Z]+") ? "\\b" : "";
            DUE.is("no " + word, Pattern.compile(edge + word + edge).matcher(code).find(), false);
        }
        DUE.is("signs 10, 32 to 126 alone", source.chars().allMatch(c -> c == 10 || c >= 32 && c < 127), true);
        lengths(code);
        face();
        inside();
        DUE.finish();
    }

    private static void lengths(String code) {
        Matcher m = Pattern.compile("(?m)^( {4}| {8})(?!private static final class)[a-zA-Z][^=;\n]*\\(([^)]*)\\) \\{$").matcher(code);
        int methods = 0;
        while (m.find()) {
            methods++;
            String head = m.group().trim();
            int end = code.indexOf("\n" + m.group(1) + "}", m.end());
            long lines = code.substring(m.start(), end).lines().count() + 1;
            DUE.is(head + " lines", lines <= 60, true);
            DUE.is(head + " parameters", m.group(2).split(",").length <= 7, true);
        }
        DUE.is("methods found", methods > 100, true);
    }

    private static void face() {
        Set<String> wanted = new TreeSet<>(List.of(FACE.split(" ")));
        Set<String> found = new TreeSet<>();
        for (Method m : PlateRunner.class.getDeclaredMethods()) {
            if (Modifier.isPublic(m.getModifiers())) DUE.is("twice " + m, found.add(m.getName()), true);
            else DUE.is("private " + m, Modifier.isPrivate(m.getModifiers()), true);
        }
        DUE.is("face " + found, found.equals(wanted), true);
        for (Field f : PlateRunner.class.getDeclaredFields())
            DUE.is("field " + f, f.getName().equals("NONE") != Modifier.isPrivate(f.getModifiers()), true);
        DUE.is("constructors", PlateRunner.class.getDeclaredConstructors().length, 1);
        for (Constructor<?> c : PlateRunner.class.getDeclaredConstructors())
            DUE.is("constructor", Modifier.isPublic(c.getModifiers()) && c.getParameterCount() == 0, true);
        int mods = PlateRunner.class.getModifiers();
        DUE.is("public and final", Modifier.isPublic(mods) && Modifier.isFinal(mods), true);
    }

    private static void inside() {
        List<Class<?>> all = new ArrayList<>(List.of(PlateRunner.class));
        all.addAll(List.of(PlateRunner.class.getDeclaredClasses()));
        DUE.is("classes", all.size() <= 12, true);
        Set<String> names = new HashSet<>(List.of(FACE.split(" ")));
        for (Class<?> c : all) {
            int fields = 0;
            for (Field f : c.getDeclaredFields()) {
                boolean still = Modifier.isStatic(f.getModifiers());
                if (!still) fields++;
                else DUE.is("constant " + f, Modifier.isFinal(f.getModifiers()) && f.getType().isPrimitive(), true);
            }
            DUE.is(c + " fields", fields <= 20, true);
            if (c == PlateRunner.class) continue;
            DUE.is(c + " static", Modifier.isStatic(c.getModifiers()), true);
            DUE.is(c + " has classes", c.getDeclaredClasses().length, 0);
            for (Method m : c.getDeclaredMethods()) DUE.is("name " + m, names.contains(m.getName()), false);
        }
    }
}
