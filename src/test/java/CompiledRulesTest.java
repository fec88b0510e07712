import java.io.ByteArrayInputStream;
import java.io.DataInputStream;
import java.io.IOException;
import java.io.InputStream;
import java.util.ArrayList;
import java.util.HashMap;
import java.util.List;
import java.util.Map;
import java.util.Set;
import java.util.TreeMap;
import java.util.TreeSet;

/** The rules of LANGUAGE.md that can be seen in the compiled classes: what is called and how deep, made, thrown, caught. */
public final class CompiledRulesTest {
    private static final Set<String> LIBRARY = Set.of("java/lang/Object.<init>", "java/util/NoSuchElementException.<init>",
        "java/lang/Math.abs", "java/lang/Math.min", "java/lang/Math.max", "java/lang/Integer.bitCount",
        "java/util/Arrays.fill", "java/util/Arrays.copyOf");
    /** Calls that tell something may make what is kept; all else works in rows that the constructors have made. */
    private static final Set<String> MAKERS = Set.of("SecretBuyers.shop", "SecretBuyers.buyer", "SecretBuyers.visit",
        "SecretBuyers.brief");
    private static final Set<String> THROWERS = Set.of("SecretBuyers.look", "SecretBuyers.fair", "SecretBuyers.lean",
        "SecretBuyers.mean");
    private static final int MOST_PARAMETERS = 7;
    private static final int MOST_DEEP = 8;

    // How many bytes follow an instruction: a digit for each from nop (0) to jsr_w (201); 9: it tells its own length.
    private static final String OPERANDS =
        "0000000000000000121221111100000000000000000000000000001111100000000000000000000000000000000000000000"
        + "000000000000000000000000000000002000000000000000000002222222222222222199000000222222244212002200932244";

    private static final Map<String, Set<String>> CALLS = new TreeMap<>();

    public static void main(String[] args) throws IOException {
        List<Class<?>> classes = new ArrayList<>(List.of(SecretBuyers.class.getDeclaredClasses()));
        classes.add(SecretBuyers.class);
        for (Class<?> c : classes) {
            try (InputStream in = SecretBuyers.class.getResourceAsStream(c.getName() + ".class")) {
                new CompiledRulesTest(in.readAllBytes()).read();
            }
        }
        libraryCalls();
        depths();
        Checks.end("CompiledRulesTest");
    }

    private final DataInputStream in;
    private int[] tags;
    private Object[] pool;
    private String own;
    private String method;

    private CompiledRulesTest(byte[] bytes) {
        in = new DataInputStream(new ByteArrayInputStream(bytes));
    }

    private void read() throws IOException {
        in.readLong();
        readPool();
        in.readUnsignedShort();
        own = className(in.readUnsignedShort());
        in.readUnsignedShort();
        Checks.due(own + " implements", in.readUnsignedShort(), 0);
        readFields();
        for (int n = in.readUnsignedShort(); n > 0; n--) readMethod();
    }

    /** Of each entry what the test needs: its text, or the two entries that it points to. */
    private void readPool() throws IOException {
        int size = in.readUnsignedShort();
        tags = new int[size];
        pool = new Object[size];
        for (int i = 1; i < size; i++) {
            tags[i] = in.readUnsignedByte();
            switch (tags[i]) {
                case 1: pool[i] = in.readUTF(); break;
                case 3:
                case 4: in.readInt(); break;
                case 5:
                case 6: in.readLong(); i++; break;
                case 7:
                case 8:
                case 16: pool[i] = new int[] {in.readUnsignedShort(), 0}; break;
                case 15: in.readUnsignedByte(); in.readUnsignedShort(); break;
                default: pool[i] = new int[] {in.readUnsignedShort(), in.readUnsignedShort()}; break;
            }
        }
    }

    private String text(int at) {
        return (String) pool[at];
    }

    private String className(int at) {
        return text(((int[]) pool[at])[0]);
    }

    private String member(int at) {
        int[] both = (int[]) pool[at];
        return className(both[0]) + "." + text(((int[]) pool[both[1]])[0]);
    }

    private void readFields() throws IOException {
        for (int n = in.readUnsignedShort(); n > 0; n--) {
            int flags = in.readUnsignedShort();
            String name = text(in.readUnsignedShort());
            String type = text(in.readUnsignedShort());
            boolean isStatic = (flags & 8) != 0;
            Checks.due(own + "." + name + " is final or not static", !isStatic || (flags & 16) != 0, true);
            boolean isPlain = !isStatic || Set.of("I", "J", "Z", "C", "Ljava/lang/String;", "[I", "[J", "[C", "[B").contains(type);
            Checks.due(own + "." + name + " is of a type that may be static", isPlain, true);
            boolean isOwn = type.matches("\\[?(I|J|Z|B)|\\[?LSecretBuyers\\$\\w+;");
            Checks.due(own + "." + name + " is of a type of rule 3: " + type, isOwn, true);
            skipAttributes();
        }
    }

    private void skipAttributes() throws IOException {
        for (int n = in.readUnsignedShort(); n > 0; n--) {
            in.readUnsignedShort();
            in.skipBytes(in.readInt());
        }
    }

    private void readMethod() throws IOException {
        in.readUnsignedShort();
        String name = text(in.readUnsignedShort());
        String type = text(in.readUnsignedShort());
        method = own + "." + name;
        CALLS.computeIfAbsent(method, m -> new TreeSet<>());
        Checks.due(method + " has few parameters", parameters(type) <= MOST_PARAMETERS, true);
        Checks.due(method + " is no static block", name.equals("<clinit>") && !own.equals("SecretBuyers"), false);
        for (int n = in.readUnsignedShort(); n > 0; n--) {
            String attribute = text(in.readUnsignedShort());
            int length = in.readInt();
            if (attribute.equals("Code")) {
                readCode();
            } else {
                in.skipBytes(length);
            }
        }
    }

    private static int parameters(String type) {
        return type.substring(1, type.indexOf(')')).replaceAll("\\[", "").replaceAll("L[^;]*;", "L").length();
    }

    private void readCode() throws IOException {
        in.readInt();
        byte[] code = new byte[in.readInt()];
        in.readFully(code);
        int at = 0;
        while (at < code.length) at = step(code, at);
        Checks.due(method + " ends with its code", at, code.length);
        Checks.due(method + " catches nothing", in.readUnsignedShort(), 0);
        skipAttributes();
    }

    private int step(byte[] code, int at) {
        int op = code[at] & 255;
        int what = at + 2 < code.length ? (code[at + 1] & 255) << 8 | code[at + 2] & 255 : 0;
        switch (op) {
            case 170: return padded(at) + 12 + 4 * (number(code, padded(at) + 8) - number(code, padded(at) + 4) + 1);
            case 171: return padded(at) + 8 + 8 * number(code, padded(at) + 4);
            case 179: Checks.due(method + " sets a static field", method.endsWith(".<clinit>"), true); break;
            case 182:
            case 183:
            case 184: CALLS.get(method).add(member(what)); break;
            case 187: checkNew(className(what)); break;
            case 188:
            case 189: checkMade("a row"); break;
            case 191: Checks.due(method + " may throw", THROWERS.contains(method), true); break;
            case 185: // an interface's method
            case 186: // a lambda, or texts joined by +
            case 192: // a cast
            case 194: // a lock
            case 195:
            case 196: // a method with more locals than these rules leave
            case 197: // rows of rows
                Checks.due(method + " has the instruction " + op, false, true);
                break;
            default: break;
        }
        return at + 1 + OPERANDS.charAt(op) - '0';
    }

    private static int padded(int at) {
        return at + 4 - at % 4;
    }

    private static int number(byte[] code, int at) {
        int value = 0;
        for (int i = 0; i < 4; i++) value = value << 8 | code[at + i] & 255;
        return value;
    }

    private void checkNew(String made) {
        if (made.equals("java/util/NoSuchElementException")) {
            Checks.due(method + " may make an exception", THROWERS.contains(method), true);
        } else {
            Checks.due(method + " makes an own object: " + made, made.startsWith("SecretBuyers$"), true);
            checkMade(made);
        }
    }

    private void checkMade(String made) {
        boolean mayMake = MAKERS.contains(method) || method.endsWith(".<init>") || method.endsWith(".<clinit>");
        Checks.due(method + " may make " + made, mayMake, true);
    }

    private static void libraryCalls() {
        Set<String> copiers = new TreeSet<>();
        for (String from : CALLS.keySet()) {
            for (String to : CALLS.get(from)) {
                boolean isOwn = CALLS.containsKey(to);
                Checks.due(from + " calls " + to, isOwn || LIBRARY.contains(to), true);
                if (to.endsWith(".copyOf")) copiers.add(from);
            }
        }
        Checks.due("who copies rows: " + copiers, copiers.equals(Set.of("SecretBuyers$Reader.codeRead")), true);
        Checks.due("who calls that", CALLS.get("SecretBuyers.brief").contains("SecretBuyers$Reader.codeRead"), true);
    }

    /** Calls of the library count too; methods that call one another count once. */
    private static void depths() {
        Map<String, Integer> known = new HashMap<>();
        for (String from : CALLS.keySet()) {
            int deep = depth(from, known);
            if (from.startsWith("SecretBuyers.")) Checks.due(from + " goes " + deep + " deep, few", deep <= MOST_DEEP, true);
        }
        Set<String> loops = new TreeSet<>();
        for (String from : CALLS.keySet()) {
            if (reached(from).contains(from)) loops.add(from);
        }
        Set<String> guarded = Set.of("SecretBuyers$Reader.readLevel", "SecretBuyers$Reader.readPart");
        Checks.due("methods that come back to themselves: " + loops, loops.equals(guarded), true);
    }

    private static int depth(String from, Map<String, Integer> known) {
        if (!CALLS.containsKey(from)) return 1;
        Integer before = known.get(from);
        if (before != null) return before;
        Set<String> below = new TreeSet<>(CALLS.get(from));
        boolean comesBack = reached(from).contains(from);
        Set<String> ring = new TreeSet<>();
        if (comesBack) {
            for (String m : reached(from)) {
                if (reached(m).contains(from)) ring.add(m);
            }
            for (String m : ring) below.addAll(CALLS.get(m));
            below.removeAll(ring);
        }
        int deepest = 0;
        for (String to : below) deepest = Math.max(deepest, depth(to, known));
        known.put(from, deepest + 1);
        return deepest + 1;
    }

    private static Set<String> reached(String from) {
        Set<String> all = new TreeSet<>();
        List<String> open = new ArrayList<>(CALLS.getOrDefault(from, Set.of()));
        while (!open.isEmpty()) {
            String next = open.remove(open.size() - 1);
            if (all.add(next)) open.addAll(CALLS.getOrDefault(next, Set.of()));
        }
        return all;
    }
}
