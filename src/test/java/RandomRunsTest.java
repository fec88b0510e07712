import java.lang.reflect.InvocationTargetException;
import java.lang.reflect.Method;
import java.util.ArrayList;
import java.util.HashMap;
import java.util.List;
import java.util.Map;
import java.util.Random;

/** Drawn runs of calls, each answered by the class and by the oracle; the seeds are fixed. */
public final class RandomRunsTest {
    private static final int CALLS = 512;
    private static final int[] WILD = {-1, -2, 0, 1, 2, 3, 4, 7, 8, 11, 12, 13, 14, 19, 20, 21, 60, 61, 99, 100, 198, 199,
        300, 301, 400, 401, 999, 1000, 1001, 1427, 1428, 1439, 1440, 4095, 4096, 9999, 10000, 1 << 20,
        Integer.MAX_VALUE, Integer.MIN_VALUE};

    private static final Map<String, Method> FACE = new HashMap<>();
    private static final Map<String, Method> ORACLE = new HashMap<>();

    private final Random random;
    private final SecretBuyers made = new SecretBuyers();
    private final Oracle oracle = new Oracle();
    private final List<String> log = new ArrayList<>();
    private final int dayRoom;
    private final int placeRoom;
    private final int shopMost;
    private final int buyerMost;
    private final int wildOneIn;
    private final boolean isPlain;
    private final int[] weights = new int[10];
    private int calls = 0;
    private String wrong = null;

    private RandomRunsTest(long seed) {
        random = new Random(seed);
        int[] rooms = {2, 5, 14, 60, 400, 9999};
        dayRoom = rooms[random.nextInt(rooms.length)];
        placeRoom = new int[] {1, 3, 10, 100}[random.nextInt(4)];
        shopMost = 1 + random.nextInt(20);
        buyerMost = 1 + random.nextInt(8);
        wildOneIn = random.nextBoolean() ? 400 : 12;
        isPlain = random.nextInt(3) > 0;
        for (int i = 0; i < weights.length; i++) weights[i] = 1 + random.nextInt(6);
    }

    public static void main(String[] args) {
        for (Method m : SecretBuyers.class.getMethods()) FACE.put(m.getName(), m);
        for (Method m : Oracle.class.getDeclaredMethods()) {
            if (FACE.containsKey(m.getName())) {
                m.setAccessible(true);
                ORACLE.put(m.getName(), m);
            }
        }
        int first = args.length > 0 ? Integer.parseInt(args[0]) : 0;
        int runs = args.length > 1 ? Integer.parseInt(args[1]) : 150;
        int failed = 0;
        for (int seed = first; seed < first + runs && failed < 3; seed++) {
            RandomRunsTest run = new RandomRunsTest(seed);
            run.play();
            if (run.wrong != null) {
                failed++;
                System.out.println("seed " + seed + ": " + run.wrong);
                List<String> tail = run.log.subList(Math.max(0, run.log.size() - 12), run.log.size());
                tail.forEach(l -> System.out.println("    " + l));
            }
        }
        System.out.println("RandomRunsTest: " + (failed == 0 ? "as due" : "wrong"));
        if (failed != 0) System.exit(1);
    }

    private long call(String name, Object... args) {
        if (wrong != null || calls >= CALLS) return -1;
        calls++;
        String got = answer(FACE.get(name), made, args);
        String due = answer(ORACLE.get(name), oracle, args);
        log.add(name + java.util.Arrays.toString(args) + " -> " + got);
        if (!got.equals(due)) wrong = log.get(log.size() - 1) + ", due is " + due + " (call " + calls + ")";
        return got.matches("-?[0-9]+") ? Long.parseLong(got) : -1;
    }

    private static String answer(Method m, Object on, Object[] args) {
        try {
            return String.valueOf(m.invoke(on, args));
        } catch (InvocationTargetException e) {
            return "throws " + e.getCause().getClass().getSimpleName();
        } catch (IllegalAccessException e) {
            throw new IllegalStateException(e);
        }
    }

    private int upTo(int n) {
        return random.nextInt(wildOneIn) == 0 ? WILD[random.nextInt(WILD.length)] : n <= 0 ? 0 : random.nextInt(n);
    }

    private int among(int least, int most) {
        return random.nextInt(wildOneIn) == 0 ? WILD[random.nextInt(WILD.length)] : least + random.nextInt(most - least + 1);
    }

    private int shopArg() {
        return upTo(oracle.shops.size());
    }

    private int buyerArg() {
        return upTo(oracle.homes.size());
    }

    private int visitArg() {
        return upTo(oracle.visits.size());
    }

    private int dayArg() {
        return upTo(Math.min(9999, Math.max(1, oracle.now) + 3));
    }

    private int[] span() {
        int a = dayArg();
        int b = dayArg();
        if (random.nextInt(3) == 0) return new int[] {0, 9999};
        return random.nextInt(20) == 0 ? new int[] {Math.max(a, b), Math.min(a, b)} : new int[] {Math.min(a, b), Math.max(a, b)};
    }

    private void play() {
        call("days", random.nextInt(Math.min(dayRoom, 1000)) + 1);
        int shops = 1 + random.nextInt(shopMost);
        for (int i = 0; i < shops; i++) addShop();
        int buyers = 1 + random.nextInt(buyerMost);
        for (int i = 0; i < buyers; i++) call("buyer", upTo(placeRoom), upTo(placeRoom));
        tellBrief();
        int guard = 0;
        while (calls < CALLS && wrong == null && guard++ < 5000) step();
    }

    private void addShop() {
        int from = random.nextInt(4) == 0 ? among(0, 900) : 0;
        int to = random.nextInt(4) == 0 ? among(600, 1439) : 1439;
        call("shop", upTo(placeRoom), upTo(placeRoom), random.nextInt(3) == 0 ? upTo(4) : 0, from, to, random.nextInt(3) > 0);
    }

    private void step() {
        int all = 0;
        for (int w : weights) all += w;
        int pick = random.nextInt(all);
        int kind = 0;
        while (pick >= weights[kind]) pick -= weights[kind++];
        switch (kind) {
            case 0: case 1: case 2: addVisit(); break;
            case 3: call("appeal", visitArg(), upTo(12)); break;
            case 4: if (random.nextInt(4) == 0) tellBrief(); else askScores(); break;
            case 5: askTruth(); break;
            case 6: askMeans(); break;
            case 7: askWays(); break;
            case 8: changeTerms(); break;
            default: call("count", upTo(12)); break;
        }
    }

    private void addVisit() {
        int n = 1 + random.nextInt(4);
        int day = oracle.now - Math.min(oracle.now, random.nextInt(dayRoom));
        for (int i = 0; i < n; i++) {
            int minute = random.nextInt(3) == 0 ? among(0, 1439) : among(500, 900);
            int minutes = random.nextInt(3) == 0 ? among(1, 300) : among(1, 40);
            int form = random.nextInt(5) == 0 ? upTo(4096) : upTo(4096) | 1;
            int receipt = random.nextInt(3) > 0 ? -1 : random.nextInt(5) == 0 ? among(0, 1439) : minute + random.nextInt(Math.max(1, Math.min(1000, minutes)));
            int onDay = random.nextInt(3) == 0 ? oracle.now - Math.min(oracle.now, random.nextInt(dayRoom)) : day;
            call("visit", shopArg(), buyerArg(), random.nextInt(wildOneIn) == 0 ? upTo(3) : onDay, minute, minutes, form, receipt);
        }
    }

    private void askScores() {
        int[] s = span();
        switch (random.nextInt(4)) {
            case 0: call("look", visitArg(), upTo(6)); break;
            case 1: call("sway", shopArg(), upTo(2)); break;
            case 2: call("sum", upTo(2), upTo(4), s[0], s[1]); break;
            default: call("look", visitArg(), random.nextInt(2)); break;
        }
    }

    private int visitedDay(int visit) {
        return oracle.visits.isEmpty() ? 0 : oracle.visits.get(Math.floorMod(visit, oracle.visits.size())).day();
    }

    private int toldDay() {
        int n = oracle.visits.size();
        return n == 0 ? 0 : oracle.visits.get(n - 1 - random.nextInt((n + 1) / 2)).told();
    }

    private void askTruth() {
        int v = visitArg();
        int day = random.nextInt(5) == 0 ? dayArg() : visitedDay(v);
        switch (random.nextInt(4)) {
            case 0: call("look", v, 3 + random.nextInt(2)); break;
            case 1: call("fewest", buyerArg(), day); break;
            case 2: call("set", buyerArg(), day, upTo(3)); break;
            default: call("count", new int[] {6, 10, 11}[random.nextInt(3)]); break;
        }
    }

    private void askMeans() {
        int[] s = span();
        switch (random.nextInt(8)) {
            case 0: call("lean", buyerArg()); break;
            case 1: call("meetings", buyerArg(), buyerArg()); break;
            case 2: call("fair", visitArg()); break;
            case 3: call("mean", shopArg(), s[0], s[1]); break;
            case 4: call("doubt", shopArg(), s[0], s[1]); break;
            case 5: call("apart", shopArg(), shopArg(), s[0], s[1]); break;
            case 6: call("order", random.nextBoolean() ? 0 : upTo(4), s[0], s[1], upTo(2)); break;
            default: call("enough", shopArg(), shopArg(), s[0], s[1]); break;
        }
    }

    private void askWays() {
        int day = dayArg();
        switch (random.nextInt(4)) {
            case 0: call("may", buyerArg(), shopArg(), day); break;
            case 1: call("drawn", shopArg(), upTo(1428), random.nextInt() >>> random.nextInt(2)); break;
            default: {
                int set = setArg();
                call("given", set, day, 20);
                call("given", set, day, upTo(20));
                call("given", set, day, Math.min(19, Integer.numberOfTrailingZeros(set)));
                break;
            }
        }
    }

    private int setArg() {
        int set = 0;
        int n = 1 + random.nextInt(8);
        for (int i = 0; i < n; i++) set |= 1 << (upTo(oracle.shops.size()) & 31);
        return random.nextInt(30) == 0 ? random.nextInt() : set;
    }

    private void changeTerms() {
        switch (random.nextInt(6)) {
            case 0: call("days", random.nextInt(3) == 0 ? upTo(1001) : upTo(Math.min(20, dayRoom))); break;
            case 1: call("view", random.nextInt(3) == 0 ? upTo(oracle.now + 1) : toldDay()); call("count", 5); break;
            case 2: call("view", oracle.now); break;
            case 5: thereAndBack(); break;
            case 3: call("terms", random.nextInt(3) == 0 ? among(1, 60) : among(1, 6), among(0, 999), random.nextInt(3) == 0 ? among(0, 1000) : among(0, 30)); break;
            default: call("rest", random.nextInt(2) == 0 ? among(0, 400) : among(0, 9), random.nextInt(3) == 0 ? among(0, 198) : 198); break;
        }
    }

    /** The pace or the view is another one for a while and then as before, each time with questions. */
    private void thereAndBack() {
        boolean isPace = random.nextInt(3) > 0;
        int first = isPace ? oracle.pace : oracle.seen();
        for (int i = 0; i < 3; i++) {
            int other = isPace ? among(1, random.nextBoolean() ? 60 : 6) : toldDay();
            int kind = random.nextInt(3);
            askFor(kind);
            if (isPace) call("terms", other, oracle.fee, oracle.spread); else call("view", other);
            askFor(random.nextInt(3));
            if (isPace) call("terms", first, oracle.fee, oracle.spread); else call("view", first);
            askFor(kind);
        }
    }

    private void askFor(int kind) {
        if (kind == 0) askScores(); else if (kind == 1) askTruth(); else askMeans();
    }

    // ---- briefs

    private void tellBrief() {
        Texts texts = new Texts(random);
        String text = isPlain ? texts.plain() : texts.text();
        byte[] bytes = text.getBytes(java.nio.charset.StandardCharsets.ISO_8859_1);
        for (int i = 0; i < bytes.length; i += 24) {
            long[] three = new long[3];
            for (int k = 0; k < 24; k++) {
                long b = i + k < bytes.length ? bytes[i + k] & 255 : 0;
                three[k / 8] |= b << 56 - k % 8 * 8;
            }
            call("feed", three[0], three[1], three[2]);
        }
        if (random.nextInt(6) == 0) call("count", 9);
        int day = random.nextInt(3) == 0 ? 0 : dayArg();
        call("brief", random.nextInt(3) == 0 ? upTo(4) : 0, day);
    }

    /** Texts of briefs, some of them with a token put, left out or changed. */
    static final class Texts {
        private final Random random;
        private final StringBuilder out = new StringBuilder();
        private final List<String> names = new ArrayList<>();

        Texts(Random random) {
            this.random = random;
        }

        String text() {
            int lines = random.nextInt(12) == 0 ? 14 + random.nextInt(5) : 1 + random.nextInt(5);
            for (int i = 0; i < lines; i++) line();
            String text = out.toString();
            if (random.nextInt(3) == 0) return spoiled(text);
            return random.nextInt(4) == 0 ? text.replaceAll("(?<=[;()<=+*0-9-]) | (?=[;()<=+*-])", "") : text;
        }

        /** Lines that tell most visits apart. */
        String plain() {
            String[] lines = {
                "add N * all when 1;", "add N * item I when 1;", "add N when item I;", "add minutes * I when receipt;",
                "add hour when not item I;", "add before + I when item I or item I;", "must item 0 or I < all;",
                "bonus N when I < all;", "bonus N when item I;", "bonus N when item I and not item I;", "add week when 1;",
                "bonus N when before < N * I;", "add N - 99 * item I when 1;", "let x=all*N;add x when x<800;bonus N when N<x;"};
            int n = 2 + random.nextInt(3);
            StringBuilder text = new StringBuilder();
            for (int i = 0; i < n; i++) {
                for (char c : lines[random.nextInt(lines.length)].toCharArray()) {
                    text.append(c == 'N' ? "" + random.nextInt(300) : c == 'I' ? "" + random.nextInt(12) : "" + c);
                }
            }
            return text.toString();
        }

        private String spoiled(String text) {
            String[] odd = {"/", "A", "12345", "0012", "ninelette", "eightlet", "item", "not", "(", ")", ";", "when", "<", "a", "zz",
                "\n", "let", "+", "and", "item 12", "bonus", "\u0001", "\u00e9", "7x", "x7", "must must", "="};
            List<String> words = new ArrayList<>(List.of(text.split(" ")));
            int at = random.nextInt(words.size());
            String put = odd[random.nextInt(odd.length)];
            switch (random.nextInt(3)) {
                case 0: words.set(at, put); break;
                case 1: words.add(at, put); break;
                default: words.remove(at); break;
            }
            return String.join(" ", words);
        }

        private void line() {
            switch (random.nextInt(8)) {
                case 0: case 1: let(); break;
                case 2: put("must"); tests(0); put(";"); break;
                case 3: case 4: put("bonus"); put("" + random.nextInt(random.nextBoolean() ? 50 : 10000)); put("when"); tests(0); put(";"); break;
                default: put("add"); tests(0); put("when"); tests(0); put(";"); break;
            }
        }

        private void let() {
            String name = "" + (char) ('a' + random.nextInt(12)) + (random.nextInt(5) == 0 ? "bcdefgh" : "");
            put("let");
            put(name);
            put("=");
            tests(0);
            put(";");
            names.add(name);
        }

        private void put(String word) {
            out.append(word).append(random.nextInt(30) == 0 ? " \n " : " ");
        }

        private void tests(int depth) {
            test(depth);
            while (random.nextInt(4) == 0) {
                put(random.nextBoolean() ? "and" : "or");
                test(depth);
            }
        }

        private void test(int depth) {
            sum(depth);
            if (random.nextInt(3) == 0) {
                put(random.nextBoolean() ? "<" : "=");
                sum(depth);
            }
        }

        private void sum(int depth) {
            term(depth);
            while (random.nextInt(4) == 0) {
                put(random.nextBoolean() ? "+" : "-");
                term(depth);
            }
        }

        private void term(int depth) {
            part(depth);
            while (random.nextInt(5) == 0) {
                put("*");
                part(depth);
            }
        }

        private void part(int depth) {
            int most = random.nextInt(60) == 0 ? 5 : 3;
            int pick = random.nextInt(14);
            if (pick < 2 && depth < most) {
                put("not");
                part(depth + 1);
            } else if (pick < 4 && depth < most) {
                put("(");
                tests(depth + 1);
                put(")");
            } else if (pick < 7) {
                put("item " + random.nextInt(12));
            } else if (pick < 9) {
                put("" + (random.nextInt(4) == 0 ? random.nextInt(10000) : random.nextInt(100)));
            } else if (pick < 11 && !names.isEmpty()) {
                put(names.get(random.nextInt(names.size())));
            } else {
                put(new String[] {"all", "minutes", "hour", "receipt", "week", "before"}[random.nextInt(6)]);
            }
        }
    }
}
