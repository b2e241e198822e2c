import java.io.IOException;
import java.lang.reflect.Method;
import java.lang.reflect.Modifier;
import java.nio.file.Files;
import java.nio.file.Path;
import java.util.regex.Matcher;
import java.util.regex.Pattern;

/** The calls that README.md shows answer what stands behind them there; it names each call of the face. */
public final class ReadmeTest {
    private static final Due DUE = new Due();
    private static final Pattern CALL = Pattern.compile("x\\.(\\w+)\\(([^)]*)\\);(?: *// (-?\\w+).*)?");

    public static void main(String[] args) throws IOException, ReflectiveOperationException {
        String told = System.getenv("HEDGE_README");
        String page = Files.readString(Path.of(told == null ? "README.md" : told));
        int answers = 0;
        HedgeWants x = new HedgeWants();
        Matcher shown = CALL.matcher(page);
        while (shown.find()) {
            String answer = String.valueOf(call(x, shown.group(1), shown.group(2)));
            if (shown.group(3) != null) {
                DUE.is(shown.group() + " answered " + answer, answer.equals(shown.group(3)), true);
                answers++;
            }
        }
        DUE.is("answers are shown", answers > 0, true);
        for (Method method : HedgeWants.class.getDeclaredMethods()) {
            boolean isNamed = !Modifier.isPublic(method.getModifiers()) || page.contains("`" + method.getName() + "`");
            DUE.is("the page names " + method.getName(), isNamed, true);
        }
        DUE.is("the page says how to run the tests", page.contains("\n.ci/run\n"), true);
        DUE.end();
    }

    private static Object call(HedgeWants x, String name, String told) throws ReflectiveOperationException {
        String[] words = told.isEmpty() ? new String[0] : told.split(", ");
        for (Method method : HedgeWants.class.getMethods()) {
            if (method.getName().equals(name) && method.getParameterCount() == words.length) {
                Object[] values = new Object[words.length];
                for (int i = 0; i < words.length; i++) {
                    boolean isTruth = method.getParameterTypes()[i] == boolean.class;
                    values[i] = isTruth ? (Object) Boolean.valueOf(words[i]) : (Object) Long.decode(words[i]).intValue();
                }
                return method.invoke(x, values);
            }
        }
        return "no such call";
    }
}
