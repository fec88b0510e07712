import java.util.ArrayList;
import java.util.Arrays;
import java.util.HashMap;
import java.util.HashSet;
import java.util.LinkedHashMap;
import java.util.List;
import java.util.Map;
import java.util.NoSuchElementException;
import java.util.Set;
import java.util.function.ToIntFunction;

/** The document's promises once more, by trying everything out: slow, with nothing kept between calls. */
final class Oracle {
    record Shop(int x, int y, int chain, int from, int to, boolean records) { }
    record Home(int x, int y) { }
    record Visit(int id, int shop, int buyer, int day, int minute, int minutes, int form, int receipt, int told) { }
    record Appeal(int visit, int item, int told) { }
    record Facts(int form, int minutes, int hour, int receipt, int week, int before) { }
    record Line(String word, int number, ToIntFunction<Facts> first, ToIntFunction<Facts> when) { }
    record Brief(int chain, int from, int told, List<Line> lines) { }
    record Token(String text, int place, boolean good) { }

    @SuppressWarnings("serial")
    static final class Fault extends RuntimeException {
        final int code;

        Fault(int kind, Token at) {
            code = kind + 16 * at.place;
        }
    }

    static final Set<String> KEPT = Set.of("let", "add", "when", "must", "bonus", "and", "or", "item", "all",
        "minutes", "hour", "receipt", "week", "before", "not");

    final List<Shop> shops = new ArrayList<>();
    final List<Home> homes = new ArrayList<>();
    final List<Visit> visits = new ArrayList<>();
    final List<Appeal> appeals = new ArrayList<>();
    final List<Brief> briefs = new ArrayList<>();
    final StringBuilder tape = new StringBuilder();
    int now = 0;
    Integer fixed = null;
    int pace = 5;
    int fee = 20;
    int spread = 60;
    int restDays = 30;
    int reach = 60;

    int days(int n) {
        if (n < 0 || n > 1000 || now + n > 9999) return -1;
        return now += n;
    }

    boolean view(int day) {
        if (day < 0 || day > now) return false;
        fixed = day == now ? null : Integer.valueOf(day);
        return true;
    }

    int seen() {
        return fixed == null ? now : fixed;
    }

    static boolean in(int n, int a, int b) {
        return a <= n && n <= b;
    }

    int shop(int x, int y, int chain, int from, int to, boolean records) {
        if (!in(x, 0, 99) || !in(y, 0, 99) || !in(chain, 0, 3) || !in(from, 0, 1439) || !in(to, from, 1439)) return -1;
        if (shops.size() == 20) return -1;
        shops.add(new Shop(x, y, chain, from, to, records));
        return shops.size() - 1;
    }

    int buyer(int x, int y) {
        if (!in(x, 0, 99) || !in(y, 0, 99) || homes.size() == 8) return -1;
        homes.add(new Home(x, y));
        return homes.size() - 1;
    }

    boolean terms(int p, int f, int s) {
        if (!in(p, 1, 60) || !in(f, 0, 999) || !in(s, 0, 1000)) return false;
        pace = p;
        fee = f;
        spread = s;
        return true;
    }

    boolean rest(int d, int r) {
        if (!in(d, 0, 400) || !in(r, 0, 198)) return false;
        restDays = d;
        reach = r;
        return true;
    }

    int visit(int shop, int buyer, int day, int minute, int minutes, int form, int receipt) {
        if (!in(shop, 0, shops.size() - 1) || !in(buyer, 0, homes.size() - 1) || !in(day, 0, now)) return -1;
        if (!in(minute, 0, 1439) || !in(minutes, 1, 300) || !in(form, 0, 4095) || !in(receipt, -1, 1439)) return -1;
        if (visits.size() == 120) return -1;
        if (visits.stream().filter(v -> v.buyer == buyer && v.day == day).count() == 12) return -1;
        visits.add(new Visit(visits.size(), shop, buyer, day, minute, minutes, form, receipt, now));
        return visits.size() - 1;
    }

    boolean appeal(int visit, int item) {
        if (!in(visit, 0, visits.size() - 1) || !in(item, 0, 11)) return false;
        Visit v = visits.get(visit);
        if (!shops.get(v.shop).records || now > v.told + 14 || appeals.size() == 60) return false;
        appeals.add(new Appeal(visit, item, now));
        return true;
    }

    int feed(long a, long b, long c) {
        for (long l : new long[] {a, b, c}) {
            for (byte sign : java.nio.ByteBuffer.allocate(8).putLong(l).array()) {
                if ((sign == 10 || sign >= 32 && sign <= 126) && tape.length() < 1000) tape.append((char) sign);
            }
        }
        return tape.length();
    }

    // ---- briefs

    private List<Token> tokens;
    private int at;
    private Map<String, ToIntFunction<Facts>> told;

    static List<Token> cut(String text) {
        List<Token> all = new ArrayList<>();
        java.util.regex.Matcher m = java.util.regex.Pattern.compile("[a-z]+|[0-9]+|[^ \n]").matcher(text);
        while (m.find()) {
            String t = m.group();
            boolean good = t.matches("[a-z]{1,8}|[0-9]{1,4}|[()<=+*;-]");
            all.add(new Token(t, m.start(), good));
        }
        all.add(new Token("", text.length(), true));
        return all;
    }

    int brief(int chain, int day) {
        String text = tape.toString();
        tape.setLength(0);
        if (!in(chain, 0, 3) || !in(day, 0, 9999) || briefs.size() == 16) return -1;
        tokens = cut(text);
        at = 0;
        told = new HashMap<>();
        try {
            briefs.add(new Brief(chain, day, now, lines()));
        } catch (Fault f) {
            return f.code;
        }
        return 0;
    }

    Token peek() {
        return tokens.get(at);
    }

    Token take() {
        return tokens.get(at++);
    }

    boolean isNext(String... texts) {
        return Arrays.asList(texts).contains(peek().text);
    }

    void want(String text) {
        if (!isNext(text)) throw new Fault(1, peek());
        take();
    }

    int number() {
        if (!peek().text.matches("[0-9]{1,4}")) throw new Fault(1, peek());
        return Integer.parseInt(take().text);
    }

    boolean isName(Token t) {
        return t.text.matches("[a-z]{1,8}") && !KEPT.contains(t.text);
    }

    List<Line> lines() {
        List<Line> lines = new ArrayList<>();
        while (!isNext("")) {
            if (!isNext("let", "add", "must", "bonus")) throw new Fault(1, peek());
            if (lines.size() == 16) throw new Fault(5, peek());
            lines.add(line(take().text));
        }
        return lines;
    }

    Line line(String word) {
        int n = 0;
        ToIntFunction<Facts> first = null;
        ToIntFunction<Facts> when = null;
        String name = null;
        if (word.equals("let")) {
            if (!isName(peek())) throw new Fault(1, peek());
            if (told.containsKey(peek().text)) throw new Fault(3, peek());
            if (told.size() == 8) throw new Fault(5, peek());
            name = take().text;
            want("=");
        }
        if (word.equals("bonus")) n = number();
        else first = tests(0);
        if (word.equals("bonus") || word.equals("add")) {
            want("when");
            when = tests(0);
        }
        want(";");
        if (name != null) told.put(name, first);
        return new Line(word, n, first, when);
    }

    ToIntFunction<Facts> tests(int depth) {
        ToIntFunction<Facts> left = test(depth);
        while (isNext("and", "or")) {
            boolean and = take().text.equals("and");
            ToIntFunction<Facts> l = left;
            ToIntFunction<Facts> r = test(depth);
            left = f -> {
                boolean a = l.applyAsInt(f) != 0;
                boolean b = r.applyAsInt(f) != 0;
                return (and ? a && b : a || b) ? 1 : 0;
            };
        }
        return left;
    }

    ToIntFunction<Facts> test(int depth) {
        ToIntFunction<Facts> l = sumOf(depth);
        if (!isNext("<", "=")) return l;
        boolean less = take().text.equals("<");
        ToIntFunction<Facts> r = sumOf(depth);
        return f -> (less ? l.applyAsInt(f) < r.applyAsInt(f) : l.applyAsInt(f) == r.applyAsInt(f)) ? 1 : 0;
    }

    ToIntFunction<Facts> sumOf(int depth) {
        ToIntFunction<Facts> left = term(depth);
        while (isNext("+", "-")) {
            boolean plus = take().text.equals("+");
            ToIntFunction<Facts> l = left;
            ToIntFunction<Facts> r = term(depth);
            left = f -> plus ? l.applyAsInt(f) + r.applyAsInt(f) : l.applyAsInt(f) - r.applyAsInt(f);
        }
        return left;
    }

    ToIntFunction<Facts> term(int depth) {
        ToIntFunction<Facts> left = part(depth);
        while (isNext("*")) {
            take();
            ToIntFunction<Facts> l = left;
            ToIntFunction<Facts> r = part(depth);
            left = f -> l.applyAsInt(f) * r.applyAsInt(f);
        }
        return left;
    }

    ToIntFunction<Facts> part(int depth) {
        Token t = peek();
        boolean isNumber = t.good && t.text.matches("[0-9]+");
        boolean starts = isNumber || isName(t)
            || isNext("item", "all", "minutes", "hour", "receipt", "week", "before", "not", "(");
        if (!starts) throw new Fault(1, t);
        if (isName(t) && !told.containsKey(t.text)) throw new Fault(2, t);
        if (depth > 3) throw new Fault(5, t);
        take();
        if (isNumber) {
            int n = Integer.parseInt(t.text);
            return f -> n;
        }
        switch (t.text) {
            case "item": {
                Token place = peek();
                int k = number();
                if (k > 11) throw new Fault(4, place);
                return f -> f.form >> k & 1;
            }
            case "all": return f -> Integer.bitCount(f.form);
            case "minutes": return f -> f.minutes;
            case "hour": return f -> f.hour;
            case "receipt": return f -> f.receipt;
            case "week": return f -> f.week;
            case "before": return f -> f.before;
            case "not": {
                ToIntFunction<Facts> p = part(depth + 1);
                return f -> p.applyAsInt(f) == 0 ? 1 : 0;
            }
            case "(": {
                ToIntFunction<Facts> e = tests(depth + 1);
                want(")");
                return e;
            }
            default: return told.get(t.text);
        }
    }

    // ---- what is seen

    List<Visit> known() {
        return visits.stream().filter(v -> v.told <= seen()).toList();
    }

    Visit inView(int visit) {
        if (!in(visit, 0, visits.size() - 1) || visits.get(visit).told > seen()) throw new NoSuchElementException();
        return visits.get(visit);
    }

    int formOf(Visit v) {
        int form = v.form;
        for (Appeal a : appeals) {
            if (a.visit == v.id && a.told <= seen()) form ^= 1 << a.item;
        }
        return form;
    }

    static int byTime(Visit a, Visit b) {
        if (a.day != b.day) return Integer.compare(a.day, b.day);
        if (a.minute != b.minute) return Integer.compare(a.minute, b.minute);
        return Integer.compare(a.id, b.id);
    }

    int briefOf(Visit v) {
        int best = -1;
        for (int day = v.day; day >= 0 && best < 0; day--) {
            for (int i = 0; i < briefs.size(); i++) {
                Brief b = briefs.get(i);
                if (b.from == day && b.told <= seen() && b.chain == shops.get(v.shop).chain) best = i;
            }
        }
        return best;
    }

    int[] scoreAndBonus(Visit v, int form, Map<Integer, int[]> memo) {
        int brief = briefOf(v);
        if (brief < 0) return new int[] {0, 0};
        Visit ahead = known().stream().filter(u -> u.shop == v.shop && byTime(u, v) < 0).max(Oracle::byTime).orElse(null);
        int before = ahead == null ? 0 : scored(ahead, memo)[0];
        Facts f = new Facts(form, v.minutes, v.minute / 60, v.receipt == -1 ? 0 : 1, v.day / 7 % 53, before);
        int total = 0;
        Integer bonus = null;
        for (Line l : briefs.get(brief).lines) {
            if (l.word.equals("must") && l.first.applyAsInt(f) == 0) return new int[] {0, 0};
            if (l.word.equals("add") && l.when.applyAsInt(f) != 0) total += l.first.applyAsInt(f);
            if (l.word.equals("bonus") && bonus == null && l.when.applyAsInt(f) != 0) bonus = l.number;
        }
        return new int[] {Math.max(0, Math.min(1000, total)), bonus == null ? 0 : bonus};
    }

    int[] scored(Visit v, Map<Integer, int[]> memo) {
        int[] had = memo.get(v.id);
        if (had == null) {
            had = scoreAndBonus(v, formOf(v), memo);
            memo.put(v.id, had);
        }
        return had;
    }

    boolean falseAlone(Visit v) {
        Shop s = shops.get(v.shop);
        int last = v.minute + v.minutes - 1;
        if (v.minute < s.from || last > s.to) return true;
        if (v.receipt != -1 && !in(v.receipt, v.minute, last)) return true;
        int form = formOf(v);
        return form % 2 == 0 && form / 2 != 0;
    }

    boolean clash(Visit a, Visit b) {
        Visit first = byTime(a, b) < 0 ? a : b;
        Visit then = first == a ? b : a;
        Shop s = shops.get(a.shop);
        Shop t = shops.get(b.shop);
        int way = Math.abs(s.x - t.x) + Math.abs(s.y - t.y);
        return then.minute < first.minute + first.minutes + pace * way;
    }

    /** All least sets of a buyer's day, each by numbers. */
    List<List<Integer>> leastSets(int buyer, int day) {
        List<Visit> all = known().stream().filter(v -> v.buyer == buyer && v.day == day && !falseAlone(v)).toList();
        List<List<Integer>> least = new ArrayList<>();
        for (int bits = 0; bits < 1 << all.size(); bits++) {
            if (!least.isEmpty() && Integer.bitCount(bits) > least.get(0).size()) continue;
            boolean fits = true;
            List<Integer> set = new ArrayList<>();
            for (int i = 0; i < all.size(); i++) {
                if ((bits >> i & 1) == 1) set.add(all.get(i).id);
                for (int j = 0; j < i && (bits >> i & 1) == 0 && fits; j++) {
                    fits = (bits >> j & 1) == 1 || !clash(all.get(i), all.get(j));
                }
            }
            if (!fits) continue;
            if (!least.isEmpty() && set.size() < least.get(0).size()) least.clear();
            least.add(set);
        }
        return least;
    }

    private final Map<String, List<List<Integer>>> leastMemo = new LinkedHashMap<>();

    void forget() {
        leastMemo.clear();
        scoreMemo.clear();
    }

    private final Map<Integer, int[]> scoreMemo = new HashMap<>();

    List<List<Integer>> least(int buyer, int day) {
        return leastMemo.computeIfAbsent(buyer + " " + day, k -> leastSets(buyer, day));
    }

    int state(Visit v) {
        if (falseAlone(v)) return 1;
        List<List<Integer>> sets = least(v.buyer, v.day);
        long with = sets.stream().filter(s -> s.contains(v.id)).count();
        return with == sets.size() ? 2 : with > 0 ? 3 : 0;
    }

    boolean counts(Visit v) {
        int s = state(v);
        return s == 0 || s == 3;
    }

    // ---- the face again; each call forgets first

    int look(int visit, int what) {
        forget();
        Visit v = inView(visit);
        switch (what) {
            case 0: return scored(v, scoreMemo)[0];
            case 1: return scored(v, scoreMemo)[1];
            case 2: return formOf(v);
            case 3: return state(v);
            case 4: return counts(v) ? 1 : 0;
            case 5: return briefOf(v);
            default: throw new NoSuchElementException();
        }
    }

    List<Integer> gaps(int buyer) {
        List<Integer> gaps = new ArrayList<>();
        List<Visit> good = known().stream().filter(this::counts).toList();
        for (Visit a : good) {
            for (Visit b : good) {
                if (a.buyer == buyer && b.buyer != buyer && a.shop == b.shop && a.day / 7 == b.day / 7) {
                    gaps.add(scored(a, scoreMemo)[0] - scored(b, scoreMemo)[0]);
                }
            }
        }
        return gaps;
    }

    Integer leanOrNull(int buyer) {
        List<Integer> gaps = gaps(buyer);
        if (gaps.size() < 2) return null;
        return gaps.stream().mapToInt(i -> i).sum() / gaps.size();
    }

    int fairOf(Visit v, Map<Integer, Integer> leans) {
        int lean = leans.computeIfAbsent(v.buyer, b -> leanOrNull(b) == null ? 0 : leanOrNull(b));
        return scored(v, scoreMemo)[0] - lean;
    }

    int fair(int visit) {
        forget();
        return fairOf(inView(visit), new HashMap<>());
    }

    int fewest(int buyer, int day) {
        forget();
        if (!in(buyer, 0, homes.size() - 1) || !in(day, 0, 9999)) return -1;
        return least(buyer, day).get(0).size();
    }

    int set(int buyer, int day, int i) {
        forget();
        if (!in(buyer, 0, homes.size() - 1) || !in(day, 0, 9999)) return -1;
        List<Integer> first = null;
        for (List<Integer> s : least(buyer, day)) {
            if (first == null || Arrays.compare(ints(s), ints(first)) < 0) first = s;
        }
        return in(i, 0, first.size() - 1) ? first.get(i) : -1;
    }

    static int[] ints(List<Integer> list) {
        return list.stream().mapToInt(i -> i).toArray();
    }

    int lean(int buyer) {
        forget();
        if (!in(buyer, 0, homes.size() - 1)) throw new NoSuchElementException();
        Integer lean = leanOrNull(buyer);
        if (lean == null) throw new NoSuchElementException();
        return lean;
    }

    int meetings(int a, int b) {
        forget();
        if (!in(a, 0, homes.size() - 1) || !in(b, 0, homes.size() - 1) || a == b) return -1;
        int n = 0;
        for (Visit v : known()) {
            for (Visit u : known()) {
                if (v.buyer == a && u.buyer == b && v.shop == u.shop && v.day / 7 == u.day / 7 && counts(v) && counts(u)) n++;
            }
        }
        return n;
    }

    /** mean, doubt or null */
    int[] meanAndDoubt(int shop, int from, int to) {
        if (!in(shop, 0, shops.size() - 1) || !in(from, 0, to) || !in(to, 0, 9999)) return null;
        List<Visit> good = known().stream().filter(v -> v.shop == shop && in(v.day, from, to) && counts(v)).toList();
        if (good.isEmpty()) return null;
        Map<Integer, Integer> leans = new HashMap<>();
        int all = good.stream().mapToInt(v -> fairOf(v, leans)).sum();
        return new int[] {100 * all / good.size(), 100 * spread / good.size()};
    }

    int mean(int shop, int from, int to) {
        forget();
        int[] m = meanAndDoubt(shop, from, to);
        if (m == null) throw new NoSuchElementException();
        return m[0];
    }

    int doubt(int shop, int from, int to) {
        forget();
        int[] m = meanAndDoubt(shop, from, to);
        return m == null ? -1 : m[1];
    }

    static boolean below(int[] a, int[] b) {
        return b[0] - a[0] > a[1] + b[1];
    }

    int apart(int a, int b, int from, int to) {
        forget();
        int[] m = meanAndDoubt(a, from, to);
        int[] n = meanAndDoubt(b, from, to);
        if (a == b || m == null || n == null) return -1;
        return below(m, n) ? 1 : below(n, m) ? 2 : 0;
    }

    int order(int chain, int from, int to, int what) {
        forget();
        if (!in(chain, 0, 3) || !in(what, 0, 1)) return -1;
        Map<Integer, int[]> all = new LinkedHashMap<>();
        for (int s = 0; s < shops.size(); s++) {
            int[] m = shops.get(s).chain == chain ? meanAndDoubt(s, from, to) : null;
            if (m != null) all.put(s, m);
        }
        if (all.isEmpty()) return -1;
        int bits = 0;
        int row = 0;
        for (int s : all.keySet()) {
            if (all.values().stream().noneMatch(o -> below(all.get(s), o))) bits |= 1 << s;
            row = Math.max(row, rowFrom(all.get(s), all));
        }
        return what == 0 ? row : bits;
    }

    int rowFrom(int[] m, Map<Integer, int[]> all) {
        int best = 1;
        for (int[] o : all.values()) {
            if (below(m, o)) best = Math.max(best, 1 + rowFrom(o, all));
        }
        return best;
    }

    int enough(int a, int b, int from, int to) {
        forget();
        int[] m = meanAndDoubt(a, from, to);
        int[] n = meanAndDoubt(b, from, to);
        if (a == b || m == null || n == null) return -1;
        for (int k = 1; k < 1000; k++) {
            if (Math.abs(m[0] - n[0]) > 100 * spread / k + 100 * spread / k) return k;
        }
        return -1;
    }

    int way(int buyer, int shop) {
        return Math.abs(homes.get(buyer).x - shops.get(shop).x) + Math.abs(homes.get(buyer).y - shops.get(shop).y);
    }

    int may(int buyer, int shop, int day) {
        if (!in(buyer, 0, homes.size() - 1) || !in(shop, 0, shops.size() - 1) || !in(day, 0, 9999)) return -1;
        for (Visit v : known()) {
            int gap = v.day > day ? v.day - day : day - v.day;
            if (v.buyer != buyer) continue;
            if (v.shop == shop && gap < restDays) return 0;
            if (shops.get(v.shop).chain == shops.get(shop).chain && gap < restDays / 4) return 0;
        }
        return way(buyer, shop) <= reach ? 1 : 0;
    }

    private int[] bestGiven;
    private int bestSum;

    int given(int set, int day, int what) {
        if (set <= 0 || set >> shops.size() != 0 || Integer.bitCount(set) > 8 || !in(day, 0, 9999) || !in(what, 0, 20)) return -1;
        List<Integer> list = new ArrayList<>();
        for (int s = 0; s < 20; s++) {
            if ((set >> s & 1) == 1) list.add(s);
        }
        boolean[][] may = new boolean[20][8];
        for (int s : list) {
            for (int b = 0; b < homes.size(); b++) may[s][b] = may(b, s, day) == 1;
        }
        int[] leastRest = new int[list.size() + 1];
        for (int k = list.size() - 1; k >= 0; k--) {
            int least = 100000;
            for (int b = 0; b < homes.size(); b++) {
                if (may[list.get(k)][b]) least = Math.min(least, way(b, list.get(k)));
            }
            leastRest[k] = leastRest[k + 1] + least;
        }
        bestGiven = null;
        bestSum = Integer.MAX_VALUE;
        tryGive(list, 0, new int[list.size()], new int[8], 0, may, leastRest);
        if (bestGiven == null) return -1;
        return what == 20 ? bestSum : list.contains(what) ? bestGiven[list.indexOf(what)] : -1;
    }

    /** In the order of buyers, so the first with the least sum is the one. */
    void tryGive(List<Integer> list, int k, int[] got, int[] load, int sum, boolean[][] may, int[] leastRest) {
        if (sum + leastRest[k] >= bestSum || leastRest[0] >= 100000) return;
        if (k == list.size()) {
            bestSum = sum;
            bestGiven = got.clone();
            return;
        }
        for (int b = 0; b < homes.size(); b++) {
            if (!may[list.get(k)][b] || load[b] == 2) continue;
            load[b]++;
            got[k] = b;
            tryGive(list, k + 1, got, load, sum + way(b, list.get(k)), may, leastRest);
            load[b]--;
        }
    }

    Visit latest(int shop) {
        return known().stream().filter(v -> v.shop == shop).max(Oracle::byTime).orElse(null);
    }

    int drawn(int shop, int week, int g) {
        if (!in(shop, 0, shops.size() - 1) || !in(week, 0, 1427) || g < 0) return -1;
        java.math.BigInteger h = java.math.BigInteger.valueOf(g);
        for (int s = 0; s <= shop; s++) {
            h = h.multiply(java.math.BigInteger.valueOf(1103515245)).add(java.math.BigInteger.valueOf(12345))
                .mod(java.math.BigInteger.ONE.shiftLeft(31));
        }
        Visit last = latest(shop);
        List<Integer> days = new ArrayList<>();
        for (int d = week * 7; d < week * 7 + 7; d++) {
            if (last == null || last.day % 7 != d % 7) days.add(d);
        }
        return days.get(h.intValue() / 65536 % days.size());
    }

    int sway(int shop, int what) {
        forget();
        if (!in(shop, 0, shops.size() - 1) || !in(what, 0, 1)) return -1;
        Visit v = latest(shop);
        if (v == null) return -1;
        int item = -1;
        int most = 0;
        for (int k = 11; k >= 0; k--) {
            int by = Math.abs(scoreAndBonus(v, formOf(v) ^ 1 << k, scoreMemo)[1] - scored(v, scoreMemo)[1]);
            if (by >= most && by > 0) {
                most = by;
                item = k;
            }
        }
        return item < 0 ? -1 : what == 0 ? item : most;
    }

    int sum(int what, int which, int from, int to) {
        forget();
        if (!in(what, 0, 1) || !in(from, 0, to) || !in(to, 0, 9999)) return -1;
        if (!in(which, 0, what == 0 ? 3 : homes.size() - 1)) return -1;
        int all = 0;
        for (Visit v : known()) {
            if (!in(v.day, from, to) || !counts(v)) continue;
            if (what == 0 && shops.get(v.shop).chain == which) all += scored(v, scoreMemo)[1];
            if (what == 1 && v.buyer == which) all += fee + way(which, v.shop) * 2 * (pace / 5);
        }
        return all;
    }

    int count(int what) {
        forget();
        switch (what) {
            case 0: return now;
            case 1: return seen();
            case 2: return shops.size();
            case 3: return homes.size();
            case 4: return visits.size();
            case 5: return known().size();
            case 6: return (int) known().stream().filter(this::counts).count();
            case 7: return appeals.size();
            case 8: return briefs.size();
            case 9: return tape.length();
            case 10: return (int) known().stream().filter(this::falseAlone).count();
            case 11: return fewestOverAll();
            default: return -1;
        }
    }

    int fewestOverAll() {
        Set<String> done = new HashSet<>();
        int all = 0;
        for (Visit v : known()) {
            if (done.add(v.buyer + " " + v.day)) all += least(v.buyer, v.day).get(0).size();
        }
        return all;
    }
}
