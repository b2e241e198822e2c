import java.io.IOException;
import java.lang.reflect.Field;
import java.lang.reflect.Method;
import java.lang.reflect.Modifier;
import java.nio.file.Files;
import java.nio.file.Path;
import java.util.HashSet;
import java.util.List;
import java.util.Set;
import java.util.regex.Matcher;
import java.util.regex.Pattern;

/** What can be seen of LANGUAGE.md in the class's text and its face. */
public final class LanguageTest {
    private static final Due DUE = new Due();
    private static final int MOST_LINES = 60;

    public static void main(String[] args) throws IOException {
        String path = System.getenv("HEDGE_SOURCE");
        Path source = Path.of(path == null ? "src/main/java/HedgeWants.java" : path);
        words(Files.readString(source));
        lengths(Files.readAllLines(source));
        face();
        DUE.end();
    }

    private static void words(String text) {
        String code = text.replaceAll("(?s)/\\*.*?\\*/", "").replaceAll("//[^\n]*", "").replaceAll("\"[^\"\n]*\"", "\"\"");
        String[] never = {"->", "::", "catch", "try ", "finally", "synchronized", "assert ", "package ", "Exact(", "Math.floor(",
            "toString", "hashCode", "System.out", "Random", "nanoTime", "currentTimeMillis", "getMessage", "\" +", "+ \"", "import static"};
        for (String word : never) {
            DUE.is("\"" + word + "\" stands in the class", code.contains(word), false);
        }
        Matcher imports = Pattern.compile("import ([\\w.]+);").matcher(code);
        while (imports.find()) {
            boolean isListed = List.of("java.util.Arrays", "java.util.NoSuchElementException").contains(imports.group(1));
            DUE.is("import " + imports.group(1), isListed, true);
        }
        Matcher throwing = Pattern.compile("throw ([^;]*);").matcher(code);
        while (throwing.find()) {
            boolean isPlain = throwing.group(1).matches("new (NoSuchElement|IllegalArgument)Exception\\(\"\"\\)");
            DUE.is("throw " + throwing.group(1), isPlain, true);
        }
    }

    private static void lengths(List<String> lines) {
        int from = 0;
        for (int i = 0; i < lines.size(); i++) {
            String line = lines.get(i);
            if (line.matches(" {4}( {4})?[^ *@/}].*\\) .*\\{")) {
                from = i;
            }
            if (line.matches(" {4}( {4})?\\}")) {
                DUE.is("a method of too many lines ends at " + (i + 1), line.startsWith("        }") && i - from > MOST_LINES, false);
            }
        }
    }

    private static void face() {
        Set<String> names = new HashSet<>();
        for (Method m : HedgeWants.class.getDeclaredMethods()) {
            if (Modifier.isPublic(m.getModifiers())) {
                names.add(m.getName());
            }
        }
        DUE.is("methods of the face", names.size(), 37);
        Class<?>[] all = HedgeWants.class.getDeclaredClasses();
        DUE.is("classes at most twelve", all.length <= 11, true);
        check(HedgeWants.class, names);
        for (Class<?> inner : all) {
            check(inner, names);
        }
    }

    private static void check(Class<?> of, Set<String> names) {
        int fields = 0;
        for (Field f : of.getDeclaredFields()) {
            boolean isStatic = Modifier.isStatic(f.getModifiers());
            fields += isStatic ? 0 : 1;
            DUE.is("static " + of + " " + f.getName() + " is final", isStatic && !Modifier.isFinal(f.getModifiers()), false);
            boolean isSeen = of == HedgeWants.class && !Modifier.isPrivate(f.getModifiers()) && !f.getName().equals("NONE");
            DUE.is(of + " " + f.getName() + " is seen", isSeen, false);
        }
        DUE.is("fields of " + of + " at most twenty", fields <= 20, true);
        for (Method m : of.getDeclaredMethods()) {
            boolean isPublic = Modifier.isPublic(m.getModifiers());
            DUE.is(of + " " + m.getName() + " at most seven parameters", m.getParameterCount() <= 7, true);
            DUE.is(of + " " + m.getName() + " bears a name of the face", !isPublic && names.contains(m.getName()), false);
            boolean isSeen = of == HedgeWants.class && !isPublic && !Modifier.isPrivate(m.getModifiers());
            DUE.is(of + " " + m.getName() + " is seen", isSeen && !m.isSynthetic(), false);
        }
    }
}
