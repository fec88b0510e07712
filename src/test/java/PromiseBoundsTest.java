import java.util.regex.Matcher;
import java.util.regex.Pattern;

/** Promise by promise: what each names as refused, empty, full, too small or too large; its words are quoted whole. */
public final class PromiseBoundsTest {
    private static final int NONE = SecretBuyers.NONE;
    private static final int LEAST = Integer.MIN_VALUE;
    private static final int MOST = Integer.MAX_VALUE;

    public static void main(String[] args) {
        newObject();
        days();
        view();
        shop();
        buyer();
        terms();
        rest();
        visit();
        appeal();
        feed();
        brief();
        look();
        fair();
        fewest();
        set();
        lean();
        meetings();
        mean();
        doubt();
        apart();
        order();
        enough();
        may();
        given();
        drawn();
        sway();
        sum();
        count();
        allAreQuoted();
        Checks.end("PromiseBoundsTest");
    }

    private static void due(String what, long got, long want) {
        Checks.due(what, got, want);
    }

    private static void due(String what, boolean got, boolean want) {
        Checks.due(what, got, want);
    }

    private static void allAreQuoted() {
        Matcher m = Pattern.compile("## Promise (\\d+): .*?`.*?`: (.*?) (?=## )").matcher(Checks.document());
        int found = 0;
        while (m.find()) {
            found++;
            due("promise " + m.group(1) + " is quoted whole", Checks.SENTENCES.contains(m.group(2)), true);
        }
        due("promises of the document", found, 28);
    }

    /** Two shops of chain 0 and one of chain 1, two buyers, day 100; a visit of 10 and of 30 minutes, which are its score. */
    private static SecretBuyers scene() {
        SecretBuyers x = new SecretBuyers();
        for (int chain : new int[] {0, 0, 1}) x.shop(0, 0, chain, 0, 1439, true);
        for (int i = 0; i < 2; i++) x.buyer(0, 0);
        x.days(100);
        due("brief", Checks.tell(x, "add minutes when 1;", 0, 0), 0);
        Scenes.see(x, 0, 0, 50, 10);
        Scenes.see(x, 1, 0, 60, 30);
        return x;
    }

    private static void newObject() {
        Checks.sentence("No SHOP, no BUYER, no BRIEF; NOW is 0.");
        SecretBuyers x = new SecretBuyers();
        for (int what = 0; what <= 11; what++) due("count " + what, x.count(what), 0);
        due("no shop to go to", x.may(0, 0, 0), NONE);
        due("no shop to draw for", x.drawn(0, 0, 0), NONE);
        due("no shop to give", x.given(1, 0, 20), NONE);
        due("no shop on an edge", x.sway(0, 0), NONE);
        due("no shop to visit", x.visit(0, 0, 0, 0, 1, 0, NONE), NONE);
        due("no order", x.order(0, 0, 9999, 0), NONE);
        due("no buyer", x.fewest(0, 0), NONE);
        due("no buyer's set", x.set(0, 0, 0), NONE);
        due("no meetings", x.meetings(0, 1), NONE);
        due("no fees", x.sum(1, 0, 0, 9999), NONE);
        due("bonuses of none", x.sum(0, 0, 0, 9999), 0);
        due("no doubt", x.doubt(0, 0, 9999), NONE);
        due("none apart", x.apart(0, 1, 0, 9999), NONE);
        due("none enough", x.enough(0, 1, 0, 9999), NONE);
        due("no appeal", x.appeal(0, 0), false);
        Checks.noSuch("no visit", () -> x.look(0, 0));
        Checks.noSuch("no fair score", () -> x.fair(0));
        Checks.noSuch("no lean", () -> x.lean(0));
        Checks.noSuch("no mean", () -> x.mean(0, 0, 9999));
        due("an empty tape", x.feed(0, 0, 0), 0);
    }

    private static void days() {
        Checks.sentence("n DAYS pass (0 to 1000): NOW; NONE for another n, beyond 9999.");
        SecretBuyers x = new SecretBuyers();
        due("0", x.days(0), 0);
        due("1", x.days(1), 1);
        due("1000", x.days(1000), 1001);
        for (int n : new int[] {-1, 1001, LEAST, MOST}) {
            due("days " + n, x.days(n), NONE);
            due("as it was", x.count(0), 1001);
        }
        for (int i = 0; i < 8; i++) x.days(1000);
        due("beyond 9999 by one", x.days(999), NONE);
        due("as it was", x.count(0), 9001);
        due("just 9999", x.days(998), 9999);
        due("one more", x.days(1), NONE);
        due("none more", x.days(0), 9999);
        due("a thousand more", x.days(1000), NONE);
    }

    private static void view() {
        Checks.sentence("THE VIEW: true; false: a DAY behind NOW, below 0.");
        SecretBuyers x = Scenes.plain(1, 1, 10);
        due("below 0", x.view(-1), false);
        due("behind now", x.view(11), false);
        due("least", x.view(LEAST), false);
        due("most", x.view(MOST), false);
        due("as it was", x.count(1), 10);
        due("day 0", x.view(0), true);
        due("behind now", x.view(11), false);
        due("as it was", x.count(1), 0);
        due("now", x.view(10), true);
        due("below 0", x.view(-1), false);
        x.days(1);
        due("it goes along still", x.count(1), 11);
        due("what was behind now", x.view(11), true);
    }

    private static void shop() {
        Checks.sentence("A SHOP more: its number; NONE: other numbers, 20 are there.");
        SecretBuyers x = new SecretBuyers();
        int[][] wrong = {{-1, 0, 0, 0, 0}, {100, 0, 0, 0, 0}, {0, -1, 0, 0, 0}, {0, 100, 0, 0, 0}, {0, 0, -1, 0, 0}, {0, 0, 4, 0, 0},
            {0, 0, 0, -1, 0}, {0, 0, 0, 1440, 1440}, {0, 0, 0, 0, 1440}, {0, 0, 0, 1, 0}, {0, 0, 0, -1, -1},
            {MOST, MOST, MOST, MOST, MOST}, {LEAST, LEAST, LEAST, LEAST, LEAST}};
        for (int[] w : wrong) due("a wrong one", x.shop(w[0], w[1], w[2], w[3], w[4], true), NONE);
        due("none is there", x.count(2), 0);
        for (int i = 0; i < 20; i++) {
            due("shop " + i, x.shop(0, 0, 0, 0, 0, false), i);
            due("a wrong one between", x.shop(0, 0, 0, 1, 0, false), NONE);
        }
        due("20 are there", x.shop(0, 0, 0, 0, 0, false), NONE);
        due("20 are there", x.count(2), 20);
    }

    private static void buyer() {
        Checks.sentence("A BUYER more: its number; NONE: other numbers, 8 are there.");
        SecretBuyers x = new SecretBuyers();
        int[][] wrong = {{-1, 0}, {100, 0}, {0, -1}, {0, 100}, {MOST, MOST}, {LEAST, LEAST}};
        for (int[] w : wrong) due("a wrong one", x.buyer(w[0], w[1]), NONE);
        due("none is there", x.count(3), 0);
        for (int i = 0; i < 8; i++) {
            due("buyer " + i, x.buyer(99, 99), i);
            due("a wrong one between", x.buyer(100, 99), NONE);
        }
        due("8 are there", x.buyer(0, 0), NONE);
        due("8 are there", x.count(3), 8);
    }

    private static void terms() {
        Checks.sentence("PACE, FEE and SPREAD: true; false: others.");
        SecretBuyers x = scene();
        due("least", x.terms(1, 0, 0), true);
        due("most", x.terms(60, 999, 1000), true);
        due("others", x.terms(10, 7, 9), true);
        int[][] wrong = {{0, 1, 1}, {61, 1, 1}, {1, -1, 1}, {1, 1000, 1}, {1, 1, -1}, {1, 1, 1001}, {LEAST, 1, 1}, {1, LEAST, 1},
            {1, 1, LEAST}, {MOST, 1, 1}, {1, MOST, 1}, {1, 1, MOST}};
        for (int[] w : wrong) {
            due("wrong terms", x.terms(w[0], w[1], w[2]), false);
            due("the fee is as it was", x.sum(1, 0, 50, 50), 7);
            due("the spread is as it was", x.doubt(0, 50, 50), 900);
        }
        x.buyer(3, 0);
        Scenes.see(x, 0, 2, 50, 10);
        due("the pace is as it was", x.sum(1, 2, 50, 50), 7 + 2 * 6);
    }

    private static void rest() {
        Checks.sentence("REST and REACH: true; false: others.");
        SecretBuyers x = scene();
        x.buyer(30, 0);
        due("least", x.rest(0, 0), true);
        due("most", x.rest(400, 198), true);
        due("others", x.rest(5, 30), true);
        int[][] wrong = {{-1, 1}, {401, 1}, {1, -1}, {1, 199}, {LEAST, 1}, {1, LEAST}, {MOST, 1}, {1, MOST}};
        for (int[] w : wrong) {
            due("wrong rest", x.rest(w[0], w[1]), false);
            due("the rest is as it was", x.may(0, 0, 54), 0);
            due("the rest is as it was", x.may(0, 0, 55), 1);
            due("the reach is as it was", x.may(2, 0, 0), 1);
        }
    }

    private static void visit() {
        Checks.sentence("A VISIT (receipt NONE: none): its number; NONE: no such SHOP, BUYER, other numbers, the BUYER has 12 on that DAY, 120 are there.");
        SecretBuyers x = Scenes.plain(2, 2, 30);
        int[] right = {0, 0, 0, 0, 1, 0, NONE};
        int[][] wrong = {{-1, 2}, {-1, 2}, {-1, 31}, {-1, 1440}, {0, 301}, {-1, 4096}, {-2, 1440}};
        for (int k = 0; k < 7; k++) {
            for (int w : new int[] {wrong[k][0], wrong[k][1], LEAST, MOST}) {
                int[] a = right.clone();
                a[k] = w;
                due("argument " + k + " is " + w, x.visit(a[0], a[1], a[2], a[3], a[4], a[5], a[6]), NONE);
            }
        }
        due("none is there", x.count(4), 0);
        int told = 0;
        for (int day = 0; day < 10; day++) {
            for (int i = 0; i < 12; i++) {
                due("on day " + day, x.visit(0, 0, day, 0, 1, 0, NONE), told);
                told++;
                if (told == 12) due("the buyer has 12 on that day", x.visit(1, 0, day, 5, 1, 0, NONE), NONE);
            }
        }
        due("120 are there", x.visit(0, 1, 20, 0, 1, 0, NONE), NONE);
        due("120 are there", x.count(4), 120);
    }

    private static void appeal() {
        Checks.sentence("An APPEAL: true; false: no such VISIT, item, no tape, too late, 60 are there.");
        SecretBuyers x = new SecretBuyers();
        x.shop(0, 0, 0, 0, 1439, true);
        x.shop(0, 0, 0, 0, 1439, false);
        x.buyer(0, 0);
        due("no such visit yet", x.appeal(0, 0), false);
        Scenes.see(x, 0, 0, 0, 10);
        Scenes.see(x, 1, 0, 0, 10);
        for (int visit : new int[] {-1, 2, 120, LEAST, MOST}) due("visit " + visit, x.appeal(visit, 0), false);
        for (int item : new int[] {-1, 12, 32, LEAST, MOST}) due("item " + item, x.appeal(0, item), false);
        due("no tape", x.appeal(1, 0), false);
        x.days(15);
        due("too late", x.appeal(0, 0), false);
        due("none is there", x.count(7), 0);
        due("nothing is turned", x.look(0, 2) + x.look(1, 2), 2);
        Scenes.see(x, 0, 0, 15, 10);
        for (int i = 0; i < 60; i++) due("appeal " + i, x.appeal(2, 11), true);
        due("60 are there", x.appeal(2, 11), false);
        due("60 are there", x.count(7), 60);
        due("turned an even number of times", x.look(2, 2), 1);
    }

    private static void feed() {
        Checks.sentence("Up to 24 signs come behind the TAPE: the bytes of a, b, c, of each the highest first; others than 10 and 32 .. 126, and what is beyond 1,000, are left out: how many there are.");
        SecretBuyers x = new SecretBuyers();
        due("none", x.feed(0, 0, 0), 0);
        due("none of all other signs", x.feed(-1L, Long.MIN_VALUE, 0x7f7f7f7f7f7f7f7fL), 0);
        due("24", x.feed(0x2020202020202020L, 0x0a0a0a0a0a0a0a0aL, 0x7e7e7e7e7e7e7e7eL), 24);
        due("the 17th is the first wrong one", x.brief(0, 0), 1 + 16 * 16);
        due("a of eight signs", x.feed(0x6d75737420317e7eL, 0, 0), 8);
        due("the highest first", x.brief(0, 0), 1 + 16 * 6);
        due("b behind a, c behind b", x.feed(0x6d75L, 0x7374L, 0x20313bL), 7);
        due("must 1;", x.brief(0, 0), 0);
        due("what is left out leaves no gap", x.feed(0x6d00757f73807400L, 0xff20001f01310b3bL, 0), 7);
        due("must 1;", x.brief(0, 0), 0);
        for (int i = 0; i < 41; i++) x.feed(0x2020202020202020L, 0x2020202020202020L, 0x2020202020202020L);
        due("984", x.count(9), 984);
        due("16 of 24 fit", x.feed(0x2020202020202020L, 0x202020202020203bL, 0x2020202020202020L), 1000);
        due("none fits", x.feed(0x2020202020202020L, 0, 0), 1000);
        due("the 1,000th is the last that came", x.brief(0, 0), 1 + 16 * 999);
    }

    private static void brief() {
        Checks.sentence("The TAPE is read as a BRIEF for a CHAIN from a DAY on: 0; its FAULT; -1: no such CHAIN, DAY, 16 are there (the TAPE is empty).");
        SecretBuyers x = new SecretBuyers();
        for (int chain : new int[] {-1, 4, LEAST, MOST}) {
            due("chain " + chain, Checks.tell(x, "must 1;", chain, 0), -1);
            due("the tape is empty", x.count(9), 0);
        }
        for (int day : new int[] {-1, 10000, LEAST, MOST}) {
            due("day " + day, Checks.tell(x, "must 1;", 0, day), -1);
            due("the tape is empty", x.count(9), 0);
        }
        due("a fault", Checks.tell(x, "must 1 ", 0, 0), 1 + 16 * 7);
        due("the tape is empty", x.count(9), 0);
        due("none is there", x.count(8), 0);
        for (int i = 0; i < 16; i++) {
            due("brief " + i, Checks.tell(x, "must 1;", 3, 9999), 0);
            due("the tape is empty", x.count(9), 0);
        }
        due("16 are there", Checks.tell(x, "must 1;", 0, 0), -1);
        due("the tape is empty", x.count(9), 0);
        due("16 are there", x.count(8), 16);
    }

    private static void look() {
        Checks.sentence("Of a VISIT in THE VIEW, what 0: SCORE, 1: BONUS, 2: its form, 3: 0 it can be, 1 FALSE by itself, 2 SURE, 3 MAY BE (not SURE), 4: 1 if it counts, else 0, 5: its BRIEF (by the order told; NONE: none). NoSuchElementException: none such.");
        SecretBuyers x = scene();
        Scenes.see(x, 2, 0, 70, 10);
        int[] want = {10, 0, 1, 0, 1, 0};
        for (int what = 0; what <= 5; what++) due("what " + what, x.look(0, what), want[what]);
        due("no brief", x.look(2, 5), NONE);
        for (int what : new int[] {-1, 6, LEAST, MOST}) Checks.noSuch("what " + what, () -> x.look(0, what));
        for (int visit : new int[] {-1, 3, 119, 120, LEAST, MOST}) {
            for (int what = 0; what <= 5; what++) {
                int asked = what;
                Checks.noSuch("visit " + visit, () -> x.look(visit, asked));
            }
        }
        x.view(99);
        for (int what = 0; what <= 5; what++) {
            int asked = what;
            Checks.noSuch("not in the view, what " + what, () -> x.look(0, asked));
        }
    }

    private static void fair() {
        Checks.sentence("FAIR SCORE of a VISIT in THE VIEW. NoSuchElementException: none such.");
        SecretBuyers x = scene();
        due("asked first, worked first", x.fair(1), 30);
        for (int visit : new int[] {-1, 2, 119, 120, LEAST, MOST}) Checks.noSuch("visit " + visit, () -> x.fair(visit));
        x.view(99);
        Checks.noSuch("not in the view", () -> x.fair(0));
        x.view(100);
        due("in it again", x.fair(0), 10);
    }

    private static void fewest() {
        Checks.sentence("Of a BUYER and a DAY, FEWEST; NONE: no such BUYER, DAY.");
        SecretBuyers x = scene();
        for (int buyer : new int[] {-1, 2, 8, LEAST, MOST}) due("buyer " + buyer, x.fewest(buyer, 50), NONE);
        for (int day : new int[] {-1, 10000, LEAST, MOST}) due("day " + day, x.fewest(0, day), NONE);
        due("day 0", x.fewest(0, 0), 0);
        due("day 9999, behind now", x.fewest(0, 9999), 0);
        x.visit(0, 0, 50, 600, 10, 2, NONE);
        due("asked first, worked first", x.fewest(0, 50), 0);
        Scenes.see(x, 0, 0, 50, 10);
        due("one too many", x.fewest(0, 50), 1);
    }

    private static void set() {
        Checks.sentence("The i-th VISIT of THE SET; NONE: none such.");
        SecretBuyers x = scene();
        Scenes.see(x, 0, 0, 50, 10);
        due("asked first, worked first", x.set(0, 50, 0), 0);
        for (int i : new int[] {-1, 1, 11, 12, 13, LEAST, MOST}) due("i " + i, x.set(0, 50, i), NONE);
        for (int buyer : new int[] {-1, 1, 2, 8, LEAST, MOST}) due("buyer " + buyer, x.set(buyer, 50, 0), NONE);
        for (int day : new int[] {-1, 0, 49, 51, 60, 10000, LEAST, MOST}) due("day " + day, x.set(0, day, 0), NONE);
        x.visit(0, 1, 70, 600, 10, 2, NONE);
        Scenes.see(x, 0, 1, 70, 10);
        due("asked ahead of all else", x.set(1, 70, 0), NONE);
        for (int i = 0; i < 10; i++) Scenes.see(x, 0, 1, 70, 10);
        for (int i = 0; i < 10; i++) due("of eleven " + i, x.set(1, 70, i), 4 + i);
        due("of eleven the last stays", x.set(1, 70, 10), NONE);
        for (int i = 0; i < 12; i++) Scenes.see(x, 0, 1, 71, 10);
        due("the eleventh of twelve", x.set(1, 71, 10), 25);
        due("the twelfth of twelve", x.set(1, 71, 11), NONE);
    }

    private static void lean() {
        Checks.sentence("LEAN. NoSuchElementException: no such BUYER, none.");
        SecretBuyers x = scene();
        for (int buyer : new int[] {-1, 2, 8, LEAST, MOST}) Checks.noSuch("buyer " + buyer, () -> x.lean(buyer));
        Checks.noSuch("none", () -> x.lean(0));
        Scenes.see(x, 0, 1, 51, 4);
        Checks.noSuch("one meeting", () -> x.lean(0));
        Scenes.see(x, 0, 1, 52, 4);
        due("two meetings", x.lean(0), 6);
        x.view(99);
        Checks.noSuch("none in the view", () -> x.lean(0));
    }

    private static void meetings() {
        Checks.sentence("How many MEETINGS two BUYERS have; NONE: none such, the same.");
        SecretBuyers x = scene();
        due("none", x.meetings(0, 1), 0);
        for (int same = 0; same < 2; same++) due("the same", x.meetings(same, same), NONE);
        for (int buyer : new int[] {-1, 2, 8, LEAST, MOST}) {
            due("first " + buyer, x.meetings(buyer, 0), NONE);
            due("second " + buyer, x.meetings(0, buyer), NONE);
            due("both " + buyer, x.meetings(buyer, buyer), NONE);
        }
        SecretBuyers y = Scenes.plain(1, 8, 20);
        for (int b = 0; b < 8; b += 7) {
            for (int day = 14; day < 21; day++) Scenes.see(y, 0, b, day, 10);
        }
        due("the first and the last buyer", y.meetings(0, 7), 49);
        due("the last and the first", y.meetings(7, 0), 49);
        due("the last but one", y.meetings(6, 7), 0);
    }

    private static void wrongMean(SecretBuyers x, int shop, int from, int to) {
        String what = "shop " + shop + " from " + from + " to " + to;
        Checks.noSuch("mean, " + what, () -> x.mean(shop, from, to));
        due("doubt, " + what, x.doubt(shop, from, to), NONE);
        due("apart, " + what, x.apart(shop, 1, from, to), NONE);
        due("apart the other way, " + what, x.apart(1, shop, from, to), NONE);
        due("enough, " + what, x.enough(shop, 1, from, to), NONE);
        due("enough the other way, " + what, x.enough(1, shop, from, to), NONE);
    }

    private static void mean() {
        Checks.sentence("MEAN of a SHOP. NoSuchElementException: no such SHOP, DAYS (from above to), no VISIT that counts.");
        SecretBuyers x = scene();
        due("asked first, worked first", x.mean(0, 50, 50), 1000);
        due("all days", x.mean(0, 0, 9999), 1000);
        for (int shop : new int[] {-1, 3, 20, LEAST, MOST}) wrongMean(x, shop, 0, 9999);
        wrongMean(x, 0, 51, 50);
        wrongMean(x, 0, 9999, 0);
        for (int wrong : new int[] {-1, 10000, LEAST, MOST}) {
            wrongMean(x, 0, wrong, 9999);
            wrongMean(x, 0, 0, wrong);
            wrongMean(x, 0, wrong, wrong);
        }
        wrongMean(x, 0, 51, 9999);
        wrongMean(x, 0, 0, 49);
        wrongMean(x, 2, 0, 9999);
        x.visit(2, 0, 70, 600, 10, 2, NONE);
        wrongMean(x, 2, 0, 9999);
        x.view(99);
        wrongMean(x, 0, 0, 9999);
    }

    private static void doubt() {
        Checks.sentence("DOUBT of it; NONE: as there.");
        SecretBuyers x = scene();
        due("of one visit", x.doubt(1, 60, 60), 6000);
        x.visit(2, 0, 70, 600, 10, 2, NONE);
        due("asked first, worked first: it does not count", x.doubt(2, 0, 9999), NONE);
        x.terms(5, 20, 0);
        due("a doubt of 0 is one", x.doubt(1, 60, 60), 0);
        due("no visit", x.doubt(1, 61, 9999), NONE);
        due("from above to", x.doubt(1, 60, 59), NONE);
        due("no shop", x.doubt(3, 0, 9999), NONE);
        x.view(99);
        due("not in the view", x.doubt(1, 60, 60), NONE);
    }

    private static void apart() {
        Checks.sentence("Two SHOPS from a DAY to a DAY: 0 not APART, 1 the first one is less, 2 greater; NONE: the same, one has no MEAN.");
        SecretBuyers x = scene();
        due("not apart", x.apart(0, 1, 0, 9999), 0);
        x.terms(5, 20, 9);
        due("less", x.apart(0, 1, 0, 9999), 1);
        due("greater", x.apart(1, 0, 0, 9999), 2);
        for (int shop = 0; shop < 3; shop++) due("the same", x.apart(shop, shop, 0, 9999), NONE);
        due("one has no mean", x.apart(0, 2, 0, 9999), NONE);
        due("the other has none", x.apart(2, 0, 0, 9999), NONE);
        due("the first has none on these days", x.apart(0, 1, 51, 60), NONE);
        due("the second has none on these days", x.apart(0, 1, 50, 59), NONE);
        due("just these days", x.apart(0, 1, 50, 60), 1);
        Scenes.see(x, 2, 0, 70, 300);
        due("shops of two chains", x.apart(0, 2, 0, 9999), 0);
        x.terms(5, 20, 4);
        due("shops of two chains, apart", x.apart(0, 2, 0, 9999), 2);
    }

    private static void order() {
        Checks.sentence("Of a CHAIN from a DAY to a DAY, what 0: ROW, 1: LEADS as bits (by SHOPS); NONE: none such, no SHOP of it has a MEAN.");
        SecretBuyers x = scene();
        x.terms(5, 20, 9);
        due("row", x.order(0, 0, 9999, 0), 2);
        due("leads", x.order(0, 0, 9999, 1), 2);
        for (int chain : new int[] {-1, 4, LEAST, MOST}) due("chain " + chain, x.order(chain, 0, 9999, 0), NONE);
        for (int what : new int[] {-1, 2, LEAST, MOST}) due("what " + what, x.order(0, 0, 9999, what), NONE);
        for (int day : new int[] {-1, 10000, LEAST, MOST}) {
            due("from " + day, x.order(0, day, 9999, 0), NONE);
            due("to " + day, x.order(0, 0, day, 0), NONE);
        }
        due("from above to", x.order(0, 61, 60, 0), NONE);
        for (int what = 0; what < 2; what++) {
            due("no shop of it has a mean", x.order(1, 0, 9999, what), NONE);
            due("it has no shop", x.order(2, 0, 9999, what), NONE);
            due("no visit on these days", x.order(0, 61, 9999, what), NONE);
        }
        Scenes.see(x, 2, 0, 70, 300);
        due("another chain's is not in it", x.order(0, 0, 9999, 1), 2);
        due("that chain's", x.order(1, 0, 9999, 1), 4);
        x.view(99);
        due("not in the view", x.order(0, 0, 9999, 0), NONE);
    }

    private static void enough() {
        Checks.sentence("ENOUGH; NONE: 999 are not, or as of apart().");
        SecretBuyers x = scene();
        due("6000 + 6000 to 2000", x.enough(0, 1, 0, 9999), 7);
        for (int shop = 0; shop < 3; shop++) due("the same", x.enough(shop, shop, 0, 9999), NONE);
        due("one has no mean", x.enough(0, 2, 0, 9999), NONE);
        due("the other has none", x.enough(2, 0, 0, 9999), NONE);
        due("the first has none on these days", x.enough(0, 1, 51, 60), NONE);
        due("the second has none on these days", x.enough(0, 1, 50, 59), NONE);
        SecretBuyers y = Scenes.timed(3, 1, 100);
        Scenes.see(y, 0, 0, 10, 10);
        Scenes.see(y, 1, 0, 20, 10);
        Scenes.see(y, 2, 0, 30, 11);
        y.terms(5, 20, 0);
        due("equal means are never", y.enough(0, 1, 0, 9999), NONE);
        y.terms(5, 20, 499);
        due("999 are", y.enough(0, 2, 0, 9999), 999);
        y.terms(5, 20, 500);
        due("999 are not", y.enough(0, 2, 0, 9999), NONE);
    }

    private static void may() {
        Checks.sentence("Whether a BUYER may go to a SHOP on a DAY: 1 or 0; NONE: none such.");
        SecretBuyers x = scene();
        due("may", x.may(1, 0, 50), 1);
        due("may not", x.may(0, 0, 50), 0);
        for (int buyer : new int[] {-1, 2, 8, LEAST, MOST}) due("buyer " + buyer, x.may(buyer, 0, 50), NONE);
        for (int shop : new int[] {-1, 3, 20, LEAST, MOST}) due("shop " + shop, x.may(0, shop, 50), NONE);
        for (int day : new int[] {-1, 10000, LEAST, MOST}) due("day " + day, x.may(0, 0, day), NONE);
        due("day 0", x.may(0, 0, 0), 1);
        due("day 9999", x.may(0, 0, 9999), 1);
    }

    private static void given() {
        Checks.sentence("GIVEN, what 0 to 19: the BUYER of that SHOP, 20: the sum; NONE: no such set (of SHOPS that are there, as bits, not none), DAY, no way to give, a SHOP that is not in it.");
        SecretBuyers x = scene();
        for (int set : new int[] {0, 8, 9, 15, 1 << 19, 1 << 20, 1 << 30, -1, -8, LEAST, MOST}) {
            due("set " + set, x.given(set, 0, 20), NONE);
            due("set " + set, x.given(set, 0, 0), NONE);
        }
        for (int day : new int[] {-1, 10000, LEAST, MOST}) due("day " + day, x.given(7, day, 20), NONE);
        due("day 9999", x.given(7, 9999, 20), 0);
        for (int what : new int[] {-1, -20, 21, 32, 33, LEAST, MOST}) due("what " + what, x.given(7, 0, what), NONE);
        for (int shop = 0; shop < 20; shop++) due("shop " + shop + " of set 5", x.given(5, 0, shop), shop == 0 || shop == 2 ? 0 : NONE);
        due("of three, the third", x.given(7, 0, 2), 1);
        x.rest(400, 60);
        Scenes.see(x, 2, 0, 70, 10);
        due("one alone to three shops", x.given(7, 50, 20), NONE);
        due("no way to give the first", x.given(7, 50, 0), NONE);
        due("two have a way", x.given(6, 50, 20), 0);
        SecretBuyers y = Scenes.plain(20, 1, 0);
        due("the last shop", y.given(1 << 19, 0, 19), 0);
        due("its sum", y.given(1 << 19, 0, 20), 0);
        due("beyond the last shop", y.given(1 << 20, 0, 20), NONE);
        due("the last and beyond", y.given(3 << 19, 0, 20), NONE);
    }

    private static void drawn() {
        Checks.sentence("DRAWN; NONE: no such SHOP, WEEK (0 to 1427), g.");
        SecretBuyers x = Scenes.plain(2, 1, 0);
        due("week 0", x.drawn(0, 0, 0), 0);
        due("week 1427", x.drawn(0, 1427, 0), 9989);
        for (int week : new int[] {-1, 1428, LEAST, MOST}) due("week " + week, x.drawn(0, week, 0), NONE);
        for (int shop : new int[] {-1, 2, 20, LEAST, MOST}) due("shop " + shop, x.drawn(shop, 0, 0), NONE);
        for (int g : new int[] {-1, LEAST}) due("g " + g, x.drawn(0, 0, g), NONE);
        long h = (MOST * 1103515245L + 12345L) & MOST;
        due("g most", x.drawn(0, 5, MOST), 35 + h / 65536 % 7);
    }

    private static void sway() {
        Checks.sentence("SWAY of a SHOP, what 0: the item, 1: by how much; NONE: none, no such SHOP, no VISIT.");
        SecretBuyers x = scene();
        for (int what = 0; what < 2; what++) {
            due("none", x.sway(0, what), NONE);
            due("no visit", x.sway(2, what), NONE);
            for (int shop : new int[] {-1, 3, 20, LEAST, MOST}) due("shop " + shop, x.sway(shop, what), NONE);
        }
        Checks.tell(x, "bonus 6 when item 5;", 0, 0);
        due("the item", x.sway(0, 0), 5);
        due("by how much", x.sway(0, 1), 6);
        for (int what : new int[] {-1, 2, LEAST, MOST}) due("what " + what, x.sway(0, what), NONE);
        x.view(99);
        due("no visit in the view", x.sway(0, 1), NONE);
    }

    private static void sum() {
        Checks.sentence("What 0: SUM of a CHAIN, 1: FEES of a BUYER, from a DAY to a DAY; NONE: none such.");
        SecretBuyers x = scene();
        due("fees, asked first, worked first", x.sum(1, 0, 0, 9999), 40);
        Checks.tell(x, "bonus 6 when 1;", 0, 0);
        due("bonuses, asked first, worked first", x.sum(0, 0, 0, 9999), 12);
        for (int what : new int[] {-1, 2, LEAST, MOST}) due("what " + what, x.sum(what, 0, 0, 9999), NONE);
        for (int chain : new int[] {-1, 4, LEAST, MOST}) due("chain " + chain, x.sum(0, chain, 0, 9999), NONE);
        due("chain 3", x.sum(0, 3, 0, 9999), 0);
        for (int buyer : new int[] {-1, 2, 8, LEAST, MOST}) due("buyer " + buyer, x.sum(1, buyer, 0, 9999), NONE);
        due("buyer 1", x.sum(1, 1, 0, 9999), 0);
        for (int what = 0; what < 2; what++) {
            for (int day : new int[] {-1, 10000, LEAST, MOST}) {
                due("from " + day, x.sum(what, 0, day, 9999), NONE);
                due("to " + day, x.sum(what, 0, 0, day), NONE);
            }
            due("from above to", x.sum(what, 0, 51, 50), NONE);
            due("from and to alike", x.sum(what, 0, 50, 50), what == 0 ? 6 : 20);
        }
        x.view(99);
        due("bonuses not in the view", x.sum(0, 0, 0, 9999), 0);
        due("fees not in the view", x.sum(1, 0, 0, 9999), 0);
    }

    private static void count() {
        Checks.sentence("What 0: NOW, 1: THE VIEW, 2: SHOPS, 3: BUYERS, 4: VISITS, 5: those in THE VIEW, 6: those that count, 7: APPEALS, 8: BRIEFS, 9: signs on the TAPE, 10: FALSE by themselves, 11: FEWEST over all. NONE for another what.");
        SecretBuyers x = scene();
        for (int what : new int[] {-1, 12, LEAST, MOST}) due("what " + what, x.count(what), NONE);
        Scenes.see(x, 0, 0, 50, 10);
        x.visit(0, 0, 50, 600, 10, 2, NONE);
        x.days(1);
        Scenes.see(x, 0, 0, 51, 10);
        Scenes.see(x, 0, 0, 51, 10);
        x.appeal(0, 3);
        Checks.feed(x, "must");
        x.view(100);
        int[] want = {101, 100, 3, 2, 6, 4, 3, 1, 1, 4, 1, 1};
        for (int what = 0; what < want.length; what++) due("what " + what, x.count(what), want[what]);
        x.view(101);
        int[] then = {101, 101, 3, 2, 6, 6, 5, 1, 1, 4, 1, 2};
        for (int what = 0; what < then.length; what++) due("what " + what + " now", x.count(what), then[what]);
    }
}
