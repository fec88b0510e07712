import java.util.ArrayDeque;
import java.util.ArrayList;
import java.util.Deque;
import java.util.HashSet;
import java.util.List;
import java.util.Random;
import java.util.Set;

/**
 * Drawn texts of briefs, most of them with a fault. What is due is told by a machine of states that goes over the
 * tokens once, with what is open on a stack: built in another way than the reader of the class and that of the oracle.
 */
public final class FaultsTest {
    private static final Set<String> FACTS = Set.of("all", "minutes", "hour", "receipt", "week", "before");
    private static final Set<String> OTHERS = Set.of("let", "add", "when", "must", "bonus", "and", "or", "item", "not");
    private static final String[] SOUP = {"let", "add", "when", "must", "bonus", "and", "or", "item", "all", "minutes",
        "hour", "receipt", "week", "before", "not", "a", "b", "c", "abcdefgh", "abcdefghi", "0", "1", "11", "12", "9999",
        "99999", "0000", "(", ")", "<", "=", "+", "-", "*", ";", " ", "\n", "?", "A", "_", "~"};
    private static final String[] NAMES = {"a", "b", "c", "d", "e", "f", "g", "h", "i", "longname"};

    private enum Due { LINE, LET_NAME, LET_SIGN, MONEY, MONEY_WHEN, PART, ITEM, BEHIND }

    /** Where the machine stands. */
    private static final class Machine {
        final Set<String> names = new HashSet<>();
        /** What is open, the innermost first: "not" or "(". */
        final Deque<String> open = new ArrayDeque<>();
        /** For each "(" that is open, and for the line, whether < or = has stood in its test. */
        final Deque<Boolean> compared = new ArrayDeque<>();
        Due due = Due.LINE;
        int lines;
        String line;
        String name;
        boolean isWhenDue;

        /** The kinds of fault of a token, the least one; 0 if it is right. */
        int take(String token) {
            switch (due) {
                case LINE: return takeLine(token);
                case LET_NAME: return takeName(token);
                case LET_SIGN: return takeOnly(token, "=");
                case MONEY: return takeMoney(token);
                case MONEY_WHEN: return takeOnly(token, "when");
                case PART: return takePart(token);
                case ITEM: return takeItem(token);
                default: return takeBehind(token);
            }
        }

        private int takeLine(String token) {
            if (!Set.of("let", "add", "must", "bonus").contains(token)) return 1;
            lines++;
            line = token;
            isWhenDue = token.equals("add");
            due = token.equals("let") ? Due.LET_NAME : token.equals("bonus") ? Due.MONEY : Due.PART;
            compared.clear();
            compared.push(false);
            return lines > 16 ? 5 : 0;
        }

        private int takeName(String token) {
            name = token;
            due = Due.LET_SIGN;
            return !isName(token) ? 1 : names.contains(token) ? 3 : names.size() >= 8 ? 5 : 0;
        }

        private int takeOnly(String token, String right) {
            due = Due.PART;
            return token.equals(right) ? 0 : 1;
        }

        private int takeMoney(String token) {
            due = Due.MONEY_WHEN;
            return isNumber(token) ? 0 : 1;
        }

        private int takePart(String token) {
            boolean isOne = isName(token) || isNumber(token) || FACTS.contains(token);
            if (!isOne && !Set.of("item", "not", "(").contains(token)) return 1;
            if (isName(token) && !names.contains(token)) return 2;
            if (open.size() >= 4) return 5;
            if (isOne) {
                endPart();
            } else if (token.equals("item")) {
                due = Due.ITEM;
            } else {
                open.push(token);
                if (token.equals("(")) compared.push(false);
            }
            return 0;
        }

        private int takeItem(String token) {
            if (!isNumber(token)) return 1;
            endPart();
            return Integer.parseInt(token) > 11 ? 4 : 0;
        }

        private void endPart() {
            while (!open.isEmpty() && open.peek().equals("not")) open.pop();
            due = Due.BEHIND;
        }

        private int takeBehind(String token) {
            boolean joins = Set.of("+", "-", "*", "<", "=", "and", "or").contains(token);
            if (joins) {
                boolean compares = token.equals("<") || token.equals("=");
                if (compares && compared.peek()) return 1;
                if (compares || Set.of("and", "or").contains(token)) {
                    compared.pop();
                    compared.push(compares);
                }
                due = Due.PART;
                return 0;
            }
            if (token.equals(")") && !open.isEmpty()) {
                open.pop();
                compared.pop();
                endPart();
                return 0;
            }
            if (!open.isEmpty() || !token.equals(isWhenDue ? "when" : ";")) return 1;
            due = isWhenDue ? Due.PART : Due.LINE;
            isWhenDue = false;
            compared.pop();
            compared.push(false);
            if (token.equals(";") && line.equals("let")) names.add(name);
            return 0;
        }
    }

    private static boolean isNumber(String token) {
        return token.matches("[0-9]{1,4}");
    }

    private static boolean isName(String token) {
        return token.matches("[a-z]{1,8}") && !FACTS.contains(token) && !OTHERS.contains(token);
    }

    /** The end is a token too, an empty one. */
    private static int faultOf(String text) {
        Machine machine = new Machine();
        int at = 0;
        while (true) {
            while (at < text.length() && " \n".indexOf(text.charAt(at)) >= 0) at++;
            String token = tokenAt(text, at);
            if (token.isEmpty() && machine.due == Due.LINE) return 0;
            int kind = machine.take(token);
            if (kind != 0) return kind + 16 * at;
            at += token.length();
        }
    }

    private static String tokenAt(String text, int at) {
        String rest = text.substring(at);
        for (String kind : new String[] {"[a-z]+", "[0-9]+"}) {
            String without = rest.replaceFirst("^" + kind, "");
            if (without.length() < rest.length()) return rest.substring(0, rest.length() - without.length());
        }
        return rest.isEmpty() ? "" : rest.substring(0, 1);
    }

    private final Random random;

    private FaultsTest(long seed) {
        random = new Random(seed);
    }

    private String oneOf(String... words) {
        return words[random.nextInt(words.length)];
    }

    private String blank() {
        return oneOf(" ", " ", "  ", "\n");
    }

    private String part(int deep) {
        int k = random.nextInt(10);
        if (deep > 0 && k < 2) return "not " + part(deep - 1);
        if (deep > 0 && k < 5) return "(" + whole(deep - 1) + ")";
        if (k < 6) return "item" + oneOf("", " ") + random.nextInt(random.nextInt(20) == 0 ? 14 : 12);
        if (k < 7) return oneOf(NAMES);
        return k < 9 ? oneOf(FACTS.toArray(new String[0])) : oneOf("0", "1", "12", "9999", "007");
    }

    private String whole(int deep) {
        StringBuilder text = new StringBuilder(part(deep));
        for (int n = random.nextInt(4); n > 0; n--) {
            text.append(blank()).append(oneOf("+", "-", "*", "<", "=", "and", "or", "and", "or")).append(blank()).append(part(deep));
        }
        return text.toString();
    }

    private String line(int number) {
        int deep = random.nextInt(8) == 0 ? 5 : random.nextInt(4);
        switch (random.nextInt(4)) {
            case 0: return "must " + whole(deep) + ";";
            case 1: return "add " + whole(deep) + " when " + whole(deep) + ";";
            case 2: return "bonus " + random.nextInt(10001) + " when " + whole(deep) + " ;";
            default: return "let " + NAMES[Math.min(number, NAMES.length - 1)] + "=" + whole(deep) + ";";
        }
    }

    /** Names are told first in most texts, so that the faults of what stands behind come to the fore. */
    private String brief() {
        StringBuilder text = new StringBuilder();
        int told = random.nextInt(3) == 0 ? 0 : random.nextInt(10);
        for (int i = 0; i < told; i++) text.append("let ").append(NAMES[i]).append("=1;");
        for (int n = random.nextInt(random.nextInt(4) == 0 ? 18 : 4); n >= 0; n--) text.append(line(told + n));
        return text.toString();
    }

    private String changed(String text) {
        List<String> tokens = new ArrayList<>();
        for (String s : text.split("(?<=[^a-z0-9])|(?=[^a-z0-9])|(?<=[a-z])(?=[0-9])")) tokens.add(s);
        for (int n = random.nextInt(3); n >= 0 && !tokens.isEmpty(); n--) {
            int at = random.nextInt(tokens.size());
            switch (random.nextInt(3)) {
                case 0: tokens.set(at, oneOf(SOUP)); break;
                case 1: tokens.add(at, oneOf(SOUP) + oneOf("", " ")); break;
                default: tokens.remove(at); break;
            }
        }
        return String.join("", tokens);
    }

    private String soup() {
        StringBuilder text = new StringBuilder(oneOf("", "must ", "add ", "let a=", "bonus 5 when "));
        for (int n = random.nextInt(10); n > 0; n--) text.append(oneOf(SOUP)).append(oneOf("", " "));
        return text.append(oneOf("", ";")).toString();
    }

    private String text() {
        int k = random.nextInt(10);
        String text = k < 3 ? soup() : k < 6 ? brief() : changed(brief());
        return text.substring(0, Math.min(1000, text.length()));
    }

    public static void main(String[] args) {
        int first = args.length > 0 ? Integer.parseInt(args[0]) : 0;
        int texts = args.length > 1 ? Integer.parseInt(args[1]) : 20_000;
        int[] met = new int[6];
        for (int seed = first; seed < first + texts; seed++) {
            String text = new FaultsTest(seed).text();
            int due = faultOf(text);
            met[due % 16]++;
            Checks.due("seed " + seed + ": " + text, Checks.tell(new SecretBuyers(), text, 0, 0), due);
        }
        for (int kind = 0; kind < met.length; kind++) Checks.due("texts of kind " + kind + " are many", met[kind] * 200 >= texts, true);
        Checks.end("FaultsTest");
    }
}
