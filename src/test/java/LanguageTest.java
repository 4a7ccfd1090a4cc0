import java.io.IOException;
import java.lang.management.ManagementFactory;
import java.lang.reflect.Constructor;
import java.lang.reflect.Field;
import java.lang.reflect.Method;
import java.lang.reflect.Modifier;
import java.nio.file.Files;
import java.nio.file.Path;
import java.util.ArrayList;
import java.util.Arrays;
import java.util.List;
import java.util.Set;
import java.util.TreeSet;
import java.util.regex.Matcher;
import java.util.regex.Pattern;

/** The face of the document, and those rules of LANGUAGE.md that can be seen from outside or by words. */
public final class LanguageTest {
    private static final String[] FACE = {
        "beast(int,int,int)", "of(int,int)", "well(int,int)", "pull(int)", "turn(int)", "type(int)", "caravan()", "count(int)",
        "minutes(int)", "drift(int)", "undo()", "seed(int)", "water(int)", "done(int)", "all()", "height(int)", "pulls(int)",
        "waits(int,int)", "least(int)", "both(int)", "wholly(int,int)", "drank(int,int)", "holds(int)", "image()", "restore()",
        "buckets(int,int,int,int)", "film(int,int,int,int)", "sheet(int,int,int)", "drop(int)", "item(int,int,int,long)",
        "copy(int,int,int,int,int)",
    };
    private static final String[] CONSTANTS = {"BAD", "NOT", "FULL", "NONE", "NULL", "CAST", "INDEX", "SIZE"};
    private static final int[] WORTH = {-1, -2, -3, -4, -11, -12, -13, -14};
    private static final String[] RULED_OUT = {"import", "try", "catch", "finally", "throw", "synchronized", "assert", "double",
        "float", "->", "::", "package", "native", "equals", "hashCode", "toString", "System.out", "while (true)", "var ", "MAX_VALUE",
        "MIN_VALUE"};

    private LanguageTest() {
    }

    public static void main(String[] args) throws ReflectiveOperationException, IOException {
        face();
        constants();
        classes();
        words();
        library();
        lengths();
        room();
        Due.end();
    }

    private static void face() {
        Class<WellTurns> c = WellTurns.class;
        Due.is("public final", c.getModifiers() & (Modifier.PUBLIC | Modifier.FINAL), Modifier.PUBLIC | Modifier.FINAL);
        Set<String> seen = new TreeSet<>();
        for (Method m : c.getDeclaredMethods()) {
            Due.holds(m + " is public or private", Modifier.isPublic(m.getModifiers()) || Modifier.isPrivate(m.getModifiers()));
            if (Modifier.isPublic(m.getModifiers())) {
                Due.holds(m + " answers an int", m.getReturnType() == int.class);
                seen.add(signature(m));
            }
        }
        Due.holds("the calls of the document: " + seen, seen.equals(new TreeSet<>(Arrays.asList(FACE))));
        Constructor<?>[] made = c.getDeclaredConstructors();
        Due.is("constructors", made.length, 1);
        Due.holds("public, of nothing", Modifier.isPublic(made[0].getModifiers()) && made[0].getParameterCount() == 0);
    }

    private static String signature(Method m) {
        List<String> types = new ArrayList<>();
        for (Class<?> type : m.getParameterTypes()) {
            types.add(type.getName());
        }
        return m.getName() + "(" + String.join(",", types) + ")";
    }

    private static void constants() throws ReflectiveOperationException {
        List<String> names = Arrays.asList(CONSTANTS);
        int found = 0;
        for (Field f : WellTurns.class.getDeclaredFields()) {
            int at = names.indexOf(f.getName());
            if (at >= 0) {
                found++;
                int wanted = Modifier.PUBLIC | Modifier.STATIC | Modifier.FINAL;
                Due.is(f.getName() + " is a public constant", f.getModifiers() & wanted, wanted);
                Due.is(f.getName(), f.getInt(null), WORTH[at]);
            } else {
                Due.holds(f + " is private", Modifier.isPrivate(f.getModifiers()));
            }
        }
        Due.is("constants", found, CONSTANTS.length);
    }

    private static void classes() {
        List<Class<?>> all = new ArrayList<>(Arrays.asList(WellTurns.class.getDeclaredClasses()));
        all.add(WellTurns.class);
        Due.holds("at most twelve classes", all.size() <= 12);
        Set<String> calls = new TreeSet<>();
        for (String call : FACE) {
            calls.add(call.substring(0, call.indexOf('(')));
        }
        for (Class<?> c : all) {
            if (c != WellTurns.class) {
                Due.holds(c + " is static, not public", Modifier.isStatic(c.getModifiers()) && !Modifier.isPublic(c.getModifiers()));
            }
            int held = 0;
            for (Field f : c.getDeclaredFields()) {
                held += Modifier.isStatic(f.getModifiers()) ? 0 : 1;
                Due.holds(f + ", if static, is final", !Modifier.isStatic(f.getModifiers()) || Modifier.isFinal(f.getModifiers()));
            }
            Due.holds(c + " has at most twenty fields", held <= 20);
            for (Method m : c.getDeclaredMethods()) {
                Due.holds(m + " has at most seven parameters", m.getParameterCount() <= 7);
                Due.holds(m + " bears no call's name", Modifier.isPublic(m.getModifiers()) || !calls.contains(m.getName()));
            }
        }
    }

    private static List<String> source() throws IOException {
        return Files.readAllLines(Path.of("src/main/java/WellTurns.java"));
    }

    private static void words() throws IOException {
        for (String line : source()) {
            String code = line.replaceAll("^\\s*(/\\*\\*|\\*).*", "").replaceAll("//.*", "");
            for (String word : RULED_OUT) {
                boolean plain = Character.isLetter(word.charAt(0)) && Character.isLetter(word.charAt(word.length() - 1));
                String pattern = plain ? ".*\\b" + word + "\\b.*" : ".*" + Pattern.quote(word) + ".*";
                Due.holds("'" + word + "' is ruled out: " + line, !code.matches(pattern));
            }
            Due.holds("signs 1 to 127: " + line, line.chars().allMatch(sign -> sign >= 1 && sign <= 127));
        }
    }

    /** Rule 4: of the library only what stands there. */
    private static void library() throws IOException {
        Pattern call = Pattern.compile("\\b([A-Z]\\w*\\.\\w+)\\(");
        Set<String> allowed = Set.of("Math.max", "Math.min", "Math.abs", "Integer.bitCount", "System.arraycopy", "Arrays.fill");
        for (String line : source()) {
            Matcher found = call.matcher(line);
            while (found.find()) {
                Due.holds("the library's " + found.group(1) + ": " + line, allowed.contains(found.group(1)));
            }
        }
    }

    /** A method begins and ends with lines of the same depth, a brace at their end. */
    private static void lengths() throws IOException {
        List<String> lines = source();
        for (int from = 0; from < lines.size(); from++) {
            String line = lines.get(from);
            if (line.matches("( {4}| {8})[a-z].*\\) \\{") && !line.matches("\\s*(for|if|while|switch).*")) {
                String end = line.replaceAll("\\S.*", "") + "}";
                int to = from;
                while (!lines.get(to).equals(end)) {
                    to++;
                }
                Due.holds("at most sixty lines: " + line, to - from < 60);
            }
        }
    }

    /** What is made is made by the constructor: later calls must leave the one room of all calls alone. */
    private static void room() {
        com.sun.management.ThreadMXBean thread = (com.sun.management.ThreadMXBean) ManagementFactory.getThreadMXBean();
        WellTurns x = new WellTurns();
        everyCall(x);
        long before = thread.getThreadAllocatedBytes(Thread.currentThread().getId());
        everyCall(x);
        long bytes = thread.getThreadAllocatedBytes(Thread.currentThread().getId()) - before;
        Due.holds("bytes made by the calls: " + bytes, bytes < 4096);
    }

    private static void everyCall(WellTurns x) {
        for (int sign : TEXT) {
            x.type(sign);
        }
        x.caravan();
        x.beast(0, 9, 0);
        x.pull(1);
        for (int k = 0; k < 8; k++) {
            x.minutes(2);
            x.drift(3);
            x.undo();
            x.image();
            x.restore();
            x.height(0);
            x.pulls(1);
            x.least(0);
            x.both(1);
            x.wholly(240, 0);
            x.drank(30, 1);
            x.holds(240);
            x.done(2);
            x.all();
            x.water(240);
            x.turn(1);
            x.of(1, 3);
            x.count(k);
            x.sheet(1, 2, 24);
            x.film(24, 1, 2, 0);
            x.item(1, 2, 0, 5);
            x.buckets(1, 2, 0, 8);
            x.copy(1, 0, 1, 1, 9);
            x.drop(1);
        }
    }

    private static final int[] TEXT = "50,4;p2,m3b,y1,g4b,p5".chars().toArray();
}
