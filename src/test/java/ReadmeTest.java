import java.io.IOException;
import java.lang.reflect.InvocationTargetException;
import java.lang.reflect.Method;
import java.nio.file.Files;
import java.nio.file.Path;
import java.util.HashMap;
import java.util.Map;
import java.util.Set;
import java.util.TreeSet;
import java.util.regex.Matcher;
import java.util.regex.Pattern;

/** Runs the examples of README.md as they stand there: each call must answer what stands behind it. */
public final class ReadmeTest {
    private static final Pattern CALL = Pattern.compile(
        "(?:int (\\w+) = )?x\\.(\\w+)\\((.*?)\\); +// (-?\\d+|true|false|NoSuchElementException)(?:$|: .*)");
    private static final Pattern FED = Pattern.compile("feed\\(x, \"(.*)\"\\);");

    private static final Map<String, Method> FACE = new HashMap<>();
    private static final Map<String, Integer> NAMED = new HashMap<>();
    private static final Set<String> SHOWN = new TreeSet<>();

    public static void main(String[] args) throws IOException, IllegalAccessException {
        for (Method m : SecretBuyers.class.getDeclaredMethods()) {
            if (java.lang.reflect.Modifier.isPublic(m.getModifiers())) FACE.put(m.getName(), m);
        }
        String text = Files.readString(Path.of("README.md"));
        SecretBuyers x = null;
        Matcher blocks = Pattern.compile("(?s)```java\n(.*?)```").matcher(text);
        while (blocks.find()) {
            if (blocks.group(1).startsWith("static ")) continue;
            for (String line : blocks.group(1).split("\n")) {
                if (line.equals("SecretBuyers x = new SecretBuyers();")) {
                    x = new SecretBuyers();
                } else {
                    play(x, line);
                }
            }
        }
        Checks.due("methods shown " + SHOWN, SHOWN.equals(new TreeSet<>(FACE.keySet())), true);
        Checks.due("the page tells how the tests are run", text.contains("`bash .ci/run`"), true);
        everyTestIsNamed(text);
        Checks.end("ReadmeTest");
    }

    private static void play(SecretBuyers x, String line) throws IllegalAccessException {
        Matcher fed = FED.matcher(line);
        Matcher call = CALL.matcher(line);
        if (fed.matches()) {
            Checks.feed(x, fed.group(1));
            return;
        }
        boolean isRead = x != null && call.matches() && FACE.containsKey(call.group(2));
        Checks.due("a line that can be run: " + line, isRead, true);
        if (!isRead) return;
        SHOWN.add(call.group(2));
        String got = answer(x, FACE.get(call.group(2)), call.group(3).split(", "));
        Checks.due(line + " answered " + got + ", the same", got.equals(call.group(4)), true);
        if (call.group(1) != null) NAMED.put(call.group(1), Integer.parseInt(got));
    }

    private static String answer(SecretBuyers x, Method m, String[] words) throws IllegalAccessException {
        Object[] values = new Object[words.length];
        for (int i = 0; i < words.length; i++) values[i] = value(words[i], m.getParameterTypes()[i]);
        try {
            return String.valueOf(m.invoke(x, values));
        } catch (InvocationTargetException e) {
            return e.getCause().getClass().getSimpleName();
        }
    }

    private static Object value(String word, Class<?> type) {
        if (type == boolean.class) return word.equals("true");
        if (type == long.class) return Long.decode(word.replace("L", ""));
        return NAMED.containsKey(word) ? NAMED.get(word) : Integer.valueOf(word);
    }

    private static void everyTestIsNamed(String text) throws IOException {
        try (var files = Files.list(Path.of("src/test/java"))) {
            for (Path p : files.toList()) {
                String name = p.getFileName().toString().replace(".java", "");
                if (name.endsWith("Test")) Checks.due("the page names " + name, text.contains("`" + name + "`"), true);
            }
        }
    }
}
