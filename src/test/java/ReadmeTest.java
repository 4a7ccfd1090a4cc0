import java.io.IOException;
import java.lang.reflect.InvocationTargetException;
import java.lang.reflect.Method;
import java.lang.reflect.Modifier;
import java.nio.file.Files;
import java.nio.file.Path;
import java.util.regex.Matcher;
import java.util.regex.Pattern;

/** README.md answers what the class answers: a page that tells another answer than the class misleads who uses it. */
public final class ReadmeTest {
    private static final Path PAGE = Path.of("README.md");
    private static final Pattern CALL = Pattern.compile("x\\.(\\w+)\\(([-\\d, ]*)\\); +// (-?\\d+): .*");
    private static final Pattern TEXT = Pattern.compile(".*\"([^\"]*)\"\\.toCharArray\\(\\)\\) x\\.type\\(sign\\);");
    private static final Pattern CONSTANT = Pattern.compile("`([A-Z]+)` (-\\d+)");

    private ReadmeTest() {
    }

    public static void main(String[] args) throws IOException, ReflectiveOperationException {
        String page = Files.readString(PAGE);
        example(page);
        constants(page);
        table(page);
        Due.end();
    }

    private static void example(String page) throws ReflectiveOperationException {
        int from = page.indexOf("```java");
        int to = page.indexOf("```", from + 1);
        Due.holds("README.md has an example", from >= 0 && to > from);
        WellTurns x = new WellTurns();
        int told = 0;
        for (String line : page.substring(from, to).split("\n")) {
            Matcher text = TEXT.matcher(line);
            Matcher call = CALL.matcher(line);
            if (text.matches()) {
                text.group(1).chars().forEach(x::type);
            } else if (call.matches()) {
                Due.is("README.md: " + line, answer(x, call.group(1), call.group(2)), Long.parseLong(call.group(3)));
                told++;
            } else {
                Due.holds("README.md tells an answer: " + line, !line.startsWith("x."));
            }
        }
        Due.holds("README.md tells answers", told > 0);
    }

    private static int answer(WellTurns x, String name, String given) throws ReflectiveOperationException {
        String[] words = given.isBlank() ? new String[0] : given.split(", *");
        for (Method method : WellTurns.class.getMethods()) {
            if (method.getName().equals(name) && method.getParameterCount() == words.length) {
                Object[] a = new Object[words.length];
                for (int k = 0; k < a.length; k++) {
                    boolean wide = method.getParameterTypes()[k] == long.class;
                    a[k] = wide ? (Object) Long.parseLong(words[k]) : (Object) Integer.parseInt(words[k]);
                }
                return (int) method.invoke(x, a);
            }
        }
        throw new InvocationTargetException(null, "README.md: no such call: " + name);
    }

    private static void constants(String page) throws ReflectiveOperationException {
        Matcher told = CONSTANT.matcher(page);
        int found = 0;
        while (told.find()) {
            Due.is("README.md: " + told.group(), WellTurns.class.getField(told.group(1)).getInt(null), Long.parseLong(told.group(2)));
            found++;
        }
        Due.is("README.md: constants", found, WellTurns.class.getFields().length);
    }

    private static void table(String page) {
        for (Method method : WellTurns.class.getDeclaredMethods()) {
            if (Modifier.isPublic(method.getModifiers())) {
                Matcher row = Pattern.compile("\n\\|[^|\n]*`" + method.getName() + "\\(([^)\n]*)\\)`").matcher(page);
                boolean named = row.find();
                Due.holds("README.md: a row of the table names " + method.getName(), named);
                int given = !named || row.group(1).isEmpty() ? 0 : row.group(1).split(",").length;
                Due.is("README.md: what " + method.getName() + " is given", given, method.getParameterCount());
            }
        }
    }
}
