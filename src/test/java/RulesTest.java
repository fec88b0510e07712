import java.io.IOException;
import java.lang.management.ManagementFactory;
import java.lang.reflect.Constructor;
import java.lang.reflect.Field;
import java.lang.reflect.Method;
import java.lang.reflect.Modifier;
import java.nio.file.Files;
import java.nio.file.Path;
import java.util.ArrayList;
import java.util.List;
import java.util.Set;
import java.util.TreeSet;
import java.util.regex.Matcher;
import java.util.regex.Pattern;

/** The public face, and what can be seen of LANGUAGE.md in the text of the class and in how much a run makes. */
public final class RulesTest {
    private static final String[] FACE = {
        "int days(int)", "boolean view(int)", "int shop(int,int,int,int,int,boolean)", "int buyer(int,int)",
        "boolean terms(int,int,int)", "boolean rest(int,int)", "int visit(int,int,int,int,int,int,int)",
        "boolean appeal(int,int)", "int feed(long,long,long)", "int brief(int,int)", "int look(int,int) throws",
        "int fair(int) throws", "int fewest(int,int)", "int set(int,int,int)", "int lean(int) throws",
        "int meetings(int,int)", "int mean(int,int,int) throws", "int doubt(int,int,int)", "int apart(int,int,int,int)",
        "int order(int,int,int,int)", "int enough(int,int,int,int)", "int may(int,int,int)", "int given(int,int,int)",
        "int drawn(int,int,int)", "int sway(int,int)", "int sum(int,int,int,int)", "int count(int)"};

    public static void main(String[] args) throws IOException {
        face();
        nested();
        String text = Files.readString(Path.of("src/main/java/SecretBuyers.java"));
        words(text);
        lengths(text);
        room();
        Checks.end("RulesTest");
    }

    private static void face() {
        Set<String> got = new TreeSet<>();
        Set<String> hidden = new TreeSet<>();
        for (Method m : SecretBuyers.class.getDeclaredMethods()) {
            if (Modifier.isPrivate(m.getModifiers())) {
                hidden.add(m.getName());
            } else {
                got.add(written(m));
            }
        }
        Checks.due("the face is " + got, got.equals(new TreeSet<>(List.of(FACE))), true);
        for (String name : hidden) {
            Checks.due("private " + name, got.stream().anyMatch(g -> g.contains(" " + name + "(")), false);
        }
        for (Field f : SecretBuyers.class.getDeclaredFields()) {
            boolean isFree = Modifier.isPrivate(f.getModifiers()) || f.getName().equals("NONE");
            Checks.due("field " + f.getName(), isFree, true);
        }
        Constructor<?>[] made = SecretBuyers.class.getDeclaredConstructors();
        Checks.due("one constructor", made.length == 1 && Modifier.isPublic(made[0].getModifiers()), true);
        Checks.due("final", Modifier.isFinal(SecretBuyers.class.getModifiers()), true);
    }

    private static String written(Method m) {
        List<String> types = new ArrayList<>();
        for (Class<?> c : m.getParameterTypes()) types.add(c.getName());
        String thrown = m.getExceptionTypes().length == 1 ? " throws" : "";
        return m.getReturnType().getName() + " " + m.getName() + "(" + String.join(",", types) + ")" + thrown;
    }

    private static void nested() {
        Set<String> face = new TreeSet<>();
        for (String f : FACE) face.add(f.replaceAll("^.* (.*)\\(.*$", "$1"));
        Class<?>[] inside = SecretBuyers.class.getDeclaredClasses();
        Checks.due("classes", inside.length <= 11, true);
        for (Class<?> c : inside) {
            Checks.due(c + " is static", Modifier.isStatic(c.getModifiers()), true);
            int fields = 0;
            for (Field f : c.getDeclaredFields()) fields += Modifier.isStatic(f.getModifiers()) ? 0 : 1;
            Checks.due(c + " has " + fields + " fields, few", fields <= 20, true);
            for (Method m : c.getDeclaredMethods()) Checks.due(c + " has " + m.getName(), face.contains(m.getName()), false);
        }
    }

    private static void words(String text) {
        String code = text.replaceAll("(?s)/\\*.*?\\*/", "").replaceAll("//[^\n]*", "").replaceAll("\"[^\"]*\"", "\"\"");
        String[] barred = {"->", "::", "\\btry\\b", "\\bcatch\\b", "\\bfinally\\b", "\\bsynchronized\\b", "\\bassert\\b",
            "Exact\\(", "\\bObject\\b", "\\bHash", "\\bMap\\b", "\\bSystem\\.(?!arraycopy)", "\\.hashCode", "\\.toString", "\\[\\]\\[\\]",
            "\\bpackage\\b", "\\bRandom\\b", "\\bThread\\b", "\\bprotected\\b", "\\bvar\\b", "MAX_VALUE", "MIN_VALUE"};
        for (String b : barred) {
            Matcher m = Pattern.compile(b).matcher(code);
            Checks.due("in the text: " + b, m.find(), false);
        }
        Matcher imports = Pattern.compile("(?m)^import (.*);").matcher(code);
        while (imports.find()) {
            boolean fine = Set.of("java.util.Arrays", "java.util.NoSuchElementException").contains(imports.group(1));
            Checks.due("import " + imports.group(1), fine, true);
        }
        Matcher thrown = Pattern.compile("throw ([^;]*);").matcher(code);
        while (thrown.find()) {
            Checks.due(thrown.group(), thrown.group(1).equals("new NoSuchElementException(\"\")"), true);
        }
        for (char c : text.toCharArray()) {
            if (c > 126) Checks.due("a sign of the text", c, ' ');
        }
    }

    private static void lengths(String text) {
        String[] lines = text.split("\n");
        int start = -1;
        String closing = "";
        for (int i = 0; i < lines.length; i++) {
            Matcher m = Pattern.compile("^( +)(?!private static final class|return)[a-zA-Z].*\\) (throws \\w+ )?\\{$").matcher(lines[i]);
            if (start < 0 && m.matches() && m.group(1).length() <= 8) {
                start = i;
                closing = m.group(1) + "}";
            } else if (start >= 0 && lines[i].equals(closing)) {
                Checks.due("lines of: " + lines[start].trim(), i - start < 60, true);
                start = -1;
            }
        }
    }

    /** A full object asked by its dearest calls: what a run makes must not grow with its calls. */
    private static void room() {
        com.sun.management.ThreadMXBean threads = (com.sun.management.ThreadMXBean) ManagementFactory.getThreadMXBean();
        SecretBuyers x = full();
        long before = threads.getThreadAllocatedBytes(Thread.currentThread().getId());
        int calls = ask(x);
        long made = threads.getThreadAllocatedBytes(Thread.currentThread().getId()) - before;
        Checks.due("bytes made by " + calls + " calls (" + made + "), few", made < 100_000, true);
    }

    private static SecretBuyers full() {
        SecretBuyers x = new SecretBuyers();
        for (int i = 0; i < 20; i++) x.shop(i, i, i % 2, 0, 1439, true);
        for (int i = 0; i < 8; i++) x.buyer(10 * i, 5);
        x.days(100);
        Checks.tell(x, "add 100 * all + before when 1; bonus 9 when 2 < all;", 0, 0);
        for (int i = 0; i < 120; i++) x.visit(i % 20, i % 8, 50 + i / 40, 5 * i, 20, i | 1, -1);
        return x;
    }

    private static int ask(SecretBuyers x) {
        int calls = 0;
        for (int i = 0; i < 40; i++) {
            x.view(i % 2 == 0 ? 99 : 100);
            x.given(0b11011011011 << i % 9, 10, 20);
            x.order(i % 2, 0, 9999, i / 2 % 2);
            x.set(i % 8, 50, 0);
            x.sway(i % 20, 0);
            x.sum(0, 0, 0, 9999);
            x.enough(0, 2, 0, 9999);
            x.drawn(i % 20, i, i);
            x.count(11);
            calls += 9;
        }
        return calls;
    }
}
