/** The bounds that the parts 3 to 6 of the document name, each sentence by a test of its own. */
public final class PartsBoundsTest {
    private static final int NONE = SecretBuyers.NONE;

    public static void main(String[] args) {
        openMinutes();
        receipts();
        served();
        twoVisits();
        equalMinutes();
        falseAsKnown();
        fewest();
        farBetween();
        sureAndMayBe();
        theSet();
        twelveADay();
        counting();
        meeting();
        lean();
        fair();
        mean();
        doubt();
        apart();
        row();
        leads();
        enough();
        restOfShop();
        restOfChain();
        reach();
        givenEight();
        givenTwoEach();
        givenLeast();
        givenFirst();
        drawnNumbers();
        drawnDays();
        edge();
        sway();
        sum();
        fees();
        Checks.end("PartsBoundsTest");
    }

    private static void due(String what, long got, long want) {
        Checks.due(what, got, want);
    }

    private static void due(String what, boolean got, boolean want) {
        Checks.due(what, got, want);
    }

    // ---- 3

    /** What look() tells of one visit in a shop that is open from .. to. */
    private static int alone(int from, int to, int minute, int minutes, int form, int receipt) {
        SecretBuyers x = new SecretBuyers();
        x.shop(0, 0, 0, from, to, true);
        x.buyer(0, 0);
        due("it is told", x.visit(0, 0, 0, minute, minutes, form, receipt), 0);
        due("false by themselves", x.count(10), x.look(0, 3) == 1 ? 1 : 0);
        return x.look(0, 3);
    }

    private static void openMinutes() {
        Checks.sentence("if it does not lie in the SHOP's open MINUTES as a whole (the last of its MINUTES is its MINUTE + how many - 1)");
        due("just all of them", alone(480, 500, 480, 21, 1, NONE), 0);
        due("one longer", alone(480, 500, 480, 22, 1, NONE), 1);
        due("one earlier", alone(480, 500, 479, 21, 1, NONE), 1);
        due("the last minute", alone(480, 500, 500, 1, 1, NONE), 0);
        due("the last minute and one", alone(480, 500, 500, 2, 1, NONE), 1);
        due("behind the last minute", alone(480, 500, 501, 1, 1, NONE), 1);
        due("ahead of the first minute", alone(480, 500, 479, 1, 1, NONE), 1);
        due("the first minute", alone(480, 500, 480, 1, 1, NONE), 0);
        due("round about the open ones", alone(480, 500, 470, 60, 1, NONE), 1);
        due("to the end of the day", alone(0, 1439, 1140, 300, 1, NONE), 0);
        due("beyond the end of the day", alone(0, 1439, 1141, 300, 1, NONE), 1);
        due("the last minute of the day", alone(0, 1439, 1439, 1, 1, NONE), 0);
        due("the last minute of the day and one", alone(0, 1439, 1439, 2, 1, NONE), 1);
        due("the first minute of the day", alone(0, 0, 0, 1, 1, NONE), 0);
    }

    private static void receipts() {
        Checks.sentence("if its receipt's MINUTE is not one of its MINUTES");
        due("none", alone(0, 1439, 600, 10, 1, NONE), 0);
        due("the first", alone(0, 1439, 600, 10, 1, 600), 0);
        due("the last", alone(0, 1439, 600, 10, 1, 609), 0);
        due("one ahead", alone(0, 1439, 600, 10, 1, 599), 1);
        due("one behind", alone(0, 1439, 600, 10, 1, 610), 1);
        due("the only one", alone(0, 1439, 600, 1, 1, 600), 0);
        due("behind the only one", alone(0, 1439, 600, 1, 1, 601), 1);
        due("minute 0", alone(0, 1439, 0, 1, 1, 0), 0);
        due("minute 0 for another", alone(0, 1439, 1, 1, 1, 0), 1);
        due("minute 1439", alone(0, 1439, 1400, 40, 1, 1439), 0);
    }

    private static void served() {
        Checks.sentence("or if an item of its form above 0 is yes with item 0 no (item 0: was served).");
        due("nothing yes", alone(0, 1439, 600, 10, 0, NONE), 0);
        due("item 0 yes", alone(0, 1439, 600, 10, 1, NONE), 0);
        for (int item = 1; item <= 11; item++) {
            due("item " + item + " yes, item 0 no", alone(0, 1439, 600, 10, 1 << item, NONE), 1);
            due("item " + item + " and item 0 yes", alone(0, 1439, 600, 10, 1 << item | 1, NONE), 0);
        }
        due("all but item 0", alone(0, 1439, 600, 10, 4094, NONE), 1);
        due("all", alone(0, 1439, 600, 10, 4095, NONE), 0);
    }

    /** Fewest of two visits in shops 7 from each other, the first told from 600 for 30 minutes. */
    private static int two(int minute, int minutes) {
        SecretBuyers x = new SecretBuyers();
        x.shop(10, 10, 0, 0, 1439, true);
        x.shop(14, 7, 0, 0, 1439, true);
        x.buyer(0, 0);
        x.visit(0, 0, 0, 600, 30, 1, NONE);
        x.visit(1, 0, 0, minute, minutes, 1, NONE);
        return x.fewest(0, 0);
    }

    private static void twoVisits() {
        Checks.sentence("is less than the MINUTE behind the earlier one's last + PACE * the WAY between both SHOPS.");
        due("just in time", two(600 + 30 + 35, 10), 0);
        due("a minute too early", two(600 + 30 + 34, 10), 1);
        due("told later, but earlier", two(600 - 35 - 10, 10), 0);
        due("told later, but earlier, a minute longer", two(600 - 35 - 10, 11), 1);
        due("told later, but earlier, a minute later", two(600 - 35 - 9, 10), 1);
        due("within it", two(610, 1), 1);
        due("round about it", two(500, 300), 1);
    }

    private static void equalMinutes() {
        Checks.sentence("(of equal ones the one with the greater number is later)");
        due("of one minute each", two(600, 1), 1);
        SecretBuyers x = Scenes.plain(1, 2, 0);
        Checks.tell(x, "add 1 + before when 1; bonus 5 when item 1;", 0, 0);
        x.visit(0, 0, 0, 600, 1, 1, NONE);
        x.visit(0, 1, 0, 600, 1, 3, NONE);
        due("before of the first", x.look(0, 0), 1);
        due("before of the second", x.look(1, 0), 2);
        due("the latest is the second", x.sway(0, 1), 5);
        due("its item 1", x.sway(0, 0), 1);
    }

    private static void falseAsKnown() {
        Checks.sentence("FALSE by themselves are those that can't be alone (as known in THE VIEW, with APPEALS).");
        SecretBuyers x = Scenes.plain(1, 1, 10);
        x.visit(0, 0, 5, 600, 10, 2, NONE);
        due("false", x.look(0, 3), 1);
        due("so it does not count", x.look(0, 4), 0);
        x.days(1);
        x.appeal(0, 0);
        due("by an appeal it can be", x.look(0, 3), 0);
        due("none is", x.count(10), 0);
        x.view(10);
        due("that was not known", x.look(0, 3), 1);
        due("one was", x.count(10), 1);
        x.view(9);
        due("nothing was known", x.count(10), 0);
        x.view(11);
        x.appeal(0, 0);
        due("and back", x.look(0, 3), 1);
    }

    private static void fewest() {
        Checks.sentence("Of the others the FEWEST: the least number of VISITS that must be false so that no two of those left can't both be;");
        SecretBuyers x = Scenes.plain(1, 2, 10);
        due("no visit", x.fewest(0, 5), 0);
        Scenes.seeAt(x, 0, 0, 5, 600);
        due("one", x.fewest(0, 5), 0);
        Scenes.seeAt(x, 0, 0, 5, 610);
        due("two one behind the other", x.fewest(0, 5), 0);
        x.visit(0, 0, 5, 605, 10, 2, NONE);
        due("one that is false by itself stands in no way", x.fewest(0, 5), 0);
        x.visit(0, 0, 5, 605, 10, 1, NONE);
        due("one against two", x.fewest(0, 5), 1);
        due("over all", x.count(11), 1);
        for (int i = 0; i < 12; i++) Scenes.seeAt(x, 0, 1, 6, 600);
        due("twelve at once", x.fewest(1, 6), 11);
        due("over all", x.count(11), 12);
        for (int i = 0; i < 12; i++) Scenes.seeAt(x, 0, 1, 7, 10 * i);
        due("twelve in a row", x.fewest(1, 7), 0);
        x.view(9);
        due("not known", x.fewest(1, 6), 0);
        due("over all, not known", x.count(11), 0);
    }

    private static void farBetween() {
        Checks.sentence("Two VISITS of a BUYER on one DAY can't both be if the later one's MINUTE");
        SecretBuyers x = new SecretBuyers();
        x.shop(0, 0, 0, 0, 1439, true);
        x.shop(0, 50, 0, 0, 1439, true);
        x.buyer(0, 0);
        for (int minute : new int[] {590, 600, 610}) Scenes.seeAt(x, 0, 0, 0, minute);
        Scenes.seeAt(x, 1, 0, 0, 620);
        Scenes.seeAt(x, 0, 0, 0, 1000);
        int[] states = {0, 0, 0, 2, 0};
        due("the far one stands in the way of three", x.fewest(0, 0), 1);
        for (int i = 0; i < 5; i++) due("state " + i, x.look(i, 3), states[i]);
        due("four count", x.count(6), 4);
        x.terms(1, 20, 60);
        due("by another pace, too", x.look(3, 3), 2);
        Scenes.seeAt(x, 1, 0, 0, 670);
        due("one that is in time by it", x.look(5, 3), 0);
        due("and counts", x.count(6), 5);
        x.terms(2, 20, 60);
        due("but not by this one", x.look(5, 3), 2);
        due("so it does not count", x.count(6), 4);
        due("nor does its fee", x.sum(1, 0, 0, 0), 80);
        due("nor is there a mean", x.doubt(1, 0, 0), NONE);
        x.terms(1, 20, 60);
        due("and by that one again", x.doubt(1, 0, 0), 6000);
    }

    private static void sureAndMayBe() {
        Checks.sentence("SURE are those in each set of that many that does; MAY BE those in some.");
        SecretBuyers x = Scenes.plain(1, 1, 10);
        // a long one round about two, and a pair for themselves
        x.visit(0, 0, 5, 600, 60, 1, NONE);
        x.visit(0, 0, 5, 600, 10, 1, NONE);
        x.visit(0, 0, 5, 650, 10, 1, NONE);
        x.visit(0, 0, 5, 900, 10, 1, NONE);
        x.visit(0, 0, 5, 909, 10, 1, NONE);
        x.visit(0, 0, 5, 1200, 10, 1, NONE);
        x.visit(0, 0, 5, 1200, 10, 2, NONE);
        int[] want = {2, 0, 0, 3, 3, 0, 1};
        int[] counts = {0, 1, 1, 1, 1, 1, 0};
        for (int i = 0; i < want.length; i++) {
            due("state of " + i, x.look(i, 3), want[i]);
            due("counts " + i, x.look(i, 4), counts[i]);
        }
        SecretBuyers y = Scenes.plain(1, 1, 0);
        for (int i = 0; i < 3; i++) Scenes.seeAt(y, 0, 0, 0, 600);
        for (int i = 0; i < 3; i++) due("of three at once each may be " + i, y.look(i, 3), 3);
        due("so all count", y.count(6), 3);
        SecretBuyers z = Scenes.plain(1, 1, 0);
        for (int i = 0; i < 2; i++) Scenes.seeAt(z, 0, 0, 0, 600);
        for (int i = 0; i < 2; i++) due("of two at once each may be " + i, z.look(i, 3), 3);
    }

    private static void theSet() {
        Checks.sentence("THE SET: of a BUYER and a DAY, the first of these sets by the least VISIT, then the next.");
        SecretBuyers x = Scenes.plain(1, 2, 10);
        due("nothing", x.set(0, 5, 0), NONE);
        // 0 - 1 - 2 - 3 in a row; told last to first
        for (int i = 3; i >= 0; i--) x.visit(0, 0, 5, 600 + 10 * i, 15, 1, NONE);
        due("fewest", x.fewest(0, 5), 2);
        due("the first", x.set(0, 5, 0), 0);
        due("the next", x.set(0, 5, 1), 2);
        due("no more", x.set(0, 5, 2), NONE);
        due("another day's", x.set(0, 6, 0), NONE);
        due("another buyer's", x.set(1, 5, 0), NONE);
        for (int i = 0; i < 12; i++) Scenes.seeAt(x, 0, 1, 6, 600 + i);
        due("two of twelve can stay: 4 and 14, 4 and 15 or 5 and 15", x.fewest(1, 6), 10);
        due("4 goes, so 5 and 15 stay", x.set(1, 6, 0), 4);
        for (int i = 1; i < 10; i++) due("of twelve " + i, x.set(1, 6, i), 5 + i);
        due("of twelve 10", x.set(1, 6, 10), NONE);
        due("the i ahead of the first", x.set(1, 6, -1), NONE);
    }

    private static void twelveADay() {
        Checks.sentence("(By BUYERS and DAYS; all VISITS of one BUYER on one DAY, 12 at most are told.)");
        SecretBuyers x = Scenes.plain(2, 2, 10);
        for (int i = 0; i < 12; i++) due("visit " + i, Scenes.seeAt(x, i % 2, 0, 5, 600), i);
        due("a 13th", Scenes.seeAt(x, 0, 0, 5, 900), NONE);
        due("in the other shop", Scenes.seeAt(x, 1, 0, 5, 900), NONE);
        x.days(1);
        due("told on another day", Scenes.seeAt(x, 0, 0, 5, 900), NONE);
        x.view(9);
        due("while the view has none", Scenes.seeAt(x, 0, 0, 5, 900), NONE);
        x.view(11);
        due("another buyer", Scenes.seeAt(x, 0, 1, 5, 600), 12);
        due("another day", Scenes.seeAt(x, 0, 0, 6, 600), 13);
        due("the other buyer stands in no way", x.look(12, 3), 0);
        x.visit(0, 1, 7, 1439, 1, 1, NONE);
        x.visit(0, 1, 8, 0, 1, 1, NONE);
        due("nor does the day ahead", x.fewest(1, 8), 0);
        for (int i = 0; i < 13; i++) x.visit(0, 1, 9, 600, 10, 2, NONE);
        due("those that can't be are told, too", x.count(4), 16 + 12);
    }

    // ---- 4

    private static void counting() {
        Checks.sentence("A VISIT counts if it is not FALSE by itself and not SURE.");
        SecretBuyers x = Scenes.plain(1, 1, 0);
        x.visit(0, 0, 0, 0, 10, 2, NONE);
        x.visit(0, 0, 0, 600, 60, 1, NONE);
        x.visit(0, 0, 0, 600, 10, 1, NONE);
        x.visit(0, 0, 0, 650, 10, 1, NONE);
        x.visit(0, 0, 0, 900, 10, 1, NONE);
        x.visit(0, 0, 0, 900, 10, 1, NONE);
        int[] states = {1, 2, 0, 0, 3, 3};
        for (int i = 0; i < states.length; i++) {
            due("state " + i, x.look(i, 3), states[i]);
            due("counts " + i, x.look(i, 4), states[i] == 0 || states[i] == 3 ? 1 : 0);
        }
        due("those that count", x.count(6), 4);
        due("in a doubt", x.doubt(0, 0, 0), 1500);
        due("in fees", x.sum(1, 0, 0, 0), 80);
    }

    private static void meeting() {
        Checks.sentence("A MEETING: two VISITS that count, of one SHOP in one WEEK by different BUYERS.");
        SecretBuyers x = Scenes.plain(2, 3, 50);
        Scenes.seeAt(x, 0, 0, 7, 600);
        due("one alone", x.meetings(0, 1), 0);
        Scenes.seeAt(x, 0, 0, 8, 600);
        due("of one buyer", x.meetings(0, 1), 0);
        Scenes.seeAt(x, 1, 1, 7, 600);
        due("of two shops", x.meetings(0, 1), 0);
        Scenes.seeAt(x, 0, 1, 6, 600);
        Scenes.seeAt(x, 0, 1, 14, 600);
        due("of two weeks", x.meetings(0, 1), 0);
        x.visit(0, 1, 9, 600, 10, 2, NONE);
        due("with one that is false", x.meetings(0, 1), 0);
        x.visit(0, 1, 10, 600, 60, 1, NONE);
        due("with one that counts, each of the other's", x.meetings(0, 1), 2);
        x.visit(0, 1, 10, 600, 10, 1, NONE);
        x.visit(0, 1, 10, 650, 10, 1, NONE);
        due("with one that is sure and two that count", x.meetings(0, 1), 4);
        due("the other way round", x.meetings(1, 0), 4);
        Scenes.seeAt(x, 0, 2, 7, 600);
        due("with a third", x.meetings(2, 0), 2);
        due("the two still", x.meetings(0, 1), 4);
    }

    private static void lean() {
        Checks.sentence("through how many, cut towards 0 (none with less than 2).");
        SecretBuyers x = Scenes.timed(1, 3, 50);
        Checks.noSuch("none", () -> x.lean(0));
        Scenes.see(x, 0, 0, 7, 20);
        Scenes.see(x, 0, 1, 7, 18);
        due("one meeting", x.meetings(0, 1), 1);
        Checks.noSuch("one", () -> x.lean(0));
        Checks.noSuch("one, of the other", () -> x.lean(1));
        Scenes.see(x, 0, 1, 8, 19);
        due("3 through 2", x.lean(0), 1);
        due("-3 through 2", x.lean(1), -1);
        Checks.noSuch("the third has none", () -> x.lean(2));
        Scenes.see(x, 0, 2, 9, 20);
        due("3 through 3", x.lean(0), 1);
        due("(-2 - 2 - 1 - 1) through 4", x.lean(1), -1);
        due("3 through 3 of the third", x.lean(2), 1);
        Scenes.see(x, 0, 2, 10, 10);
        due("(2 + 1 + 0 + 10) through 4", x.lean(0), 3);
        due("(-2 + 8 - 2 - 1 + 9 - 1) through 6", x.lean(1), 1);
        due("(0 - 10 + 2 - 8 + 1 - 9) through 6", x.lean(2), -24 / 6);
    }

    private static void fair() {
        Checks.sentence("FAIR SCORE of a VISIT: its SCORE less LEAN of its BUYER (0 if none).");
        SecretBuyers x = Scenes.timed(2, 3, 50);
        Scenes.see(x, 0, 0, 7, 20);
        Scenes.see(x, 0, 1, 7, 10);
        due("no lean", x.fair(0), 20);
        Scenes.see(x, 0, 1, 8, 10);
        due("a lean of 10", x.fair(0), 10);
        due("a lean of -10", x.fair(1), 20);
        x.visit(1, 0, 40, 600, 3, 2, NONE);
        due("of one that does not count, below 0", x.fair(3), -7);
        Scenes.see(x, 1, 2, 30, 9);
        due("of one without a meeting", x.fair(4), 9);
    }

    private static void mean() {
        Checks.sentence("MEAN of a SHOP from a DAY to a DAY: 100 * the sum of the FAIR SCORES of its VISITS that count on these DAYS / how many they are, cut towards 0.");
        SecretBuyers x = Scenes.timed(2, 2, 100);
        Scenes.see(x, 0, 0, 10, 10);
        Scenes.see(x, 0, 0, 20, 10);
        Scenes.see(x, 0, 0, 30, 11);
        Scenes.see(x, 1, 0, 15, 99);
        x.visit(0, 0, 25, 600, 99, 2, NONE);
        due("31 of three", x.mean(0, 0, 9999), 1033);
        due("the first day is in", x.mean(0, 10, 19), 1000);
        due("the last day is in", x.mean(0, 21, 30), 1100);
        due("from and to alike", x.mean(0, 20, 20), 1000);
        due("a day ahead of the last", x.mean(0, 0, 29), 1000);
        due("a day behind the first", x.mean(0, 11, 9999), 1050);
        Checks.noSuch("between", () -> x.mean(0, 11, 19));
        Checks.noSuch("only one that does not count", () -> x.mean(0, 21, 29));
        SecretBuyers y = Scenes.timed(2, 2, 100);
        Scenes.see(y, 0, 0, 7, 20);
        Scenes.see(y, 0, 1, 7, 10);
        Scenes.see(y, 0, 1, 8, 10);
        Scenes.see(y, 1, 0, 50, 9);
        Scenes.see(y, 1, 0, 60, 9);
        Scenes.see(y, 1, 1, 70, 1);
        due("9 and 9 less 10 each, 1 and 10", y.mean(1, 50, 70), 300);
        due("-1 of one", y.mean(1, 50, 50), -100);
        Scenes.see(y, 1, 0, 55, 10);
        due("-2 of three, cut towards 0", y.mean(1, 50, 60), -66);
        due("-1 of two", y.mean(1, 50, 55), -50);
        Scenes.see(y, 1, 0, 80, 10);
        due("0 of one", y.mean(1, 80, 80), 0);
    }

    private static void doubt() {
        Checks.sentence("DOUBT of it: 100 * SPREAD (0 to 1000; 60 at first) / how many, cut.");
        SecretBuyers x = Scenes.timed(1, 1, 100);
        Scenes.see(x, 0, 0, 10, 10);
        due("60 at first", x.doubt(0, 0, 9999), 6000);
        Scenes.see(x, 0, 0, 20, 10);
        Scenes.see(x, 0, 0, 30, 10);
        due("of three", x.doubt(0, 0, 9999), 2000);
        due("0", x.terms(5, 20, 0), true);
        due("of 0", x.doubt(0, 0, 9999), 0);
        due("1", x.terms(5, 20, 1), true);
        due("of 1 and three, cut", x.doubt(0, 0, 9999), 33);
        due("1000", x.terms(5, 20, 1000), true);
        due("of 1000", x.doubt(0, 10, 10), 100000);
        for (int wrong : Scenes.beside(0, 1000)) due("spread " + wrong, x.terms(5, 20, wrong), false);
        due("as it was", x.doubt(0, 10, 10), 100000);
    }

    private static void apart() {
        Checks.sentence("Two SHOPS are APART if their MEANS differ by more than both DOUBTS together.");
        SecretBuyers x = Scenes.timed(3, 1, 100);
        Scenes.see(x, 0, 0, 10, 30);
        Scenes.see(x, 1, 0, 20, 50);
        x.terms(5, 20, 10);
        due("2000 and 2000", x.apart(0, 1, 0, 9999), 0);
        x.terms(5, 20, 9);
        due("2000 and 1800", x.apart(0, 1, 0, 9999), 1);
        due("the other way round", x.apart(1, 0, 0, 9999), 2);
        Scenes.see(x, 1, 0, 30, 50);
        x.terms(5, 20, 13);
        due("2000 and 1300 + 650", x.apart(0, 1, 0, 9999), 1);
        x.terms(5, 20, 14);
        due("2000 and 1400 + 700", x.apart(1, 0, 0, 9999), 0);
        Scenes.see(x, 2, 0, 40, 30);
        x.terms(5, 20, 0);
        due("0 and 0", x.apart(0, 2, 0, 9999), 0);
    }

    private static void row() {
        Checks.sentence("ROW is the greatest number of its SHOPS one behind the other each APART from and less than the one behind;");
        SecretBuyers x = Scenes.timed(20, 1, 100);
        for (int s = 0; s < 20; s++) Scenes.see(x, s, 0, s, 15 * s + 1);
        x.terms(5, 20, 7);
        due("all twenty", x.order(0, 0, 9999, 0), 20);
        x.terms(5, 20, 8);
        due("each other one", x.order(0, 0, 9999, 0), 10);
        due("one shop", x.order(0, 3, 3, 0), 1);
        due("two that are not apart", x.order(0, 3, 4, 0), 1);
        due("three, the outer ones are apart", x.order(0, 3, 5, 0), 2);
        SecretBuyers y = Scenes.timed(3, 1, 100);
        for (int s = 0; s < 3; s++) Scenes.see(y, s, 0, s, 50);
        y.terms(5, 20, 0);
        due("equal ones", y.order(0, 0, 9999, 0), 1);
        SecretBuyers z = Scenes.timed(4, 1, 100);
        z.terms(5, 20, 1);
        for (int s = 0; s < 4; s++) Scenes.see(z, s, 0, s, 50 - 10 * s);
        due("the greatest first", z.order(0, 0, 9999, 0), 4);
        due("the greatest leads", z.order(0, 0, 9999, 1), 1);
        SecretBuyers w = Scenes.timed(4, 1, 100);
        int[] minutes = {10, 31, 40, 200};
        for (int s = 0; s < 4; s++) {
            for (int i = 0; i < (s == 2 ? 1 : 3); i++) Scenes.see(w, s, 0, 10 * s + i, minutes[s]);
        }
        w.terms(5, 20, 30);
        due("one of great doubt is behind none, but ahead of one", w.order(0, 0, 9999, 0), 3);
    }

    private static void leads() {
        Checks.sentence("LEADS are those from which no other of the CHAIN is APART and greater.");
        SecretBuyers x = Scenes.timed(20, 1, 100);
        x.terms(5, 20, 0);
        Scenes.see(x, 19, 0, 50, 50);
        due("the only one", x.order(0, 0, 9999, 1), 1 << 19);
        Scenes.see(x, 0, 0, 51, 50);
        due("two alike", x.order(0, 0, 9999, 1), 1 << 19 | 1);
        Scenes.see(x, 5, 0, 52, 51);
        due("one greater", x.order(0, 0, 9999, 1), 1 << 5);
        x.terms(5, 20, 1);
        due("not apart", x.order(0, 0, 9999, 1), 1 << 19 | 1 << 5 | 1);
        due("not on those days", x.order(0, 50, 51, 1), 1 << 19 | 1);
        for (int s = 0; s < 20; s++) Scenes.see(x, s, 0, 60 + s, 50);
        due("all twenty", x.order(0, 60, 79, 1), 0xfffff);
    }

    private static void enough() {
        Checks.sentence("ENOUGH: to how many VISITS each (as many as that, their MEANS as they are) two SHOPS would be APART: the least number, 999 at most.");
        SecretBuyers x = Scenes.timed(2, 1, 100);
        Scenes.see(x, 0, 0, 10, 100);
        Scenes.see(x, 1, 0, 20, 102);
        x.terms(5, 20, 0);
        due("1 is the least", x.enough(0, 1, 0, 9999), 1);
        x.terms(5, 20, 1);
        due("200 is not more than 100 + 100", x.enough(0, 1, 0, 9999), 2);
        x.terms(5, 20, 998);
        due("999", x.enough(0, 1, 0, 9999), 999);
        x.terms(5, 20, 999);
        due("it would be 1000", x.enough(0, 1, 0, 9999), NONE);
        x.terms(5, 20, 1000);
        due("it would be 1001", x.enough(1, 0, 0, 9999), NONE);
        for (int i = 0; i < 10; i++) Scenes.see(x, 0, 0, 30 + i, 100);
        x.terms(5, 20, 998);
        due("how many there are does not matter", x.enough(1, 0, 0, 9999), 999);
    }

    // ---- 5

    private static void restOfShop() {
        Checks.sentence("if no VISIT in THE VIEW that it made there (whether it counts or not) is less than REST DAYS (0 to 400; 30 at first) ahead of or behind it");
        SecretBuyers x = Scenes.plain(1, 2, 1000);
        x.visit(0, 0, 500, 600, 10, 2, NONE);
        int[][] cases = {{470, 1}, {471, 0}, {500, 0}, {529, 0}, {530, 1}};
        for (int[] c : cases) due("30 at first, day " + c[0], x.may(0, 0, c[0]), c[1]);
        due("0", x.rest(0, 60), true);
        due("the same day", x.may(0, 0, 500), 1);
        due("1", x.rest(1, 60), true);
        due("the same day", x.may(0, 0, 500), 0);
        due("the day ahead", x.may(0, 0, 499), 1);
        due("the day behind", x.may(0, 0, 501), 1);
        due("400", x.rest(400, 60), true);
        int[][] far = {{100, 1}, {101, 0}, {899, 0}, {900, 1}};
        for (int[] c : far) due("400, day " + c[0], x.may(0, 0, c[0]), c[1]);
        for (int wrong : Scenes.beside(0, 400)) due("rest " + wrong, x.rest(wrong, 60), false);
        due("as it was", x.may(0, 0, 899), 0);
        due("another buyer", x.may(1, 0, 500), 1);
        x.view(999);
        due("not in the view", x.may(0, 0, 500), 1);
    }

    private static void restOfChain() {
        Checks.sentence("and none of that CHAIN less than REST / 4, cut;");
        SecretBuyers x = new SecretBuyers();
        for (int chain : new int[] {0, 0, 1}) x.shop(0, 0, chain, 0, 1439, true);
        x.buyer(0, 0);
        x.days(1000);
        x.visit(0, 0, 500, 600, 10, 2, NONE);
        int[][] cases = {{493, 1}, {494, 0}, {500, 0}, {506, 0}, {507, 1}};
        for (int[] c : cases) due("30 / 4 is 7, day " + c[0], x.may(0, 1, c[0]), c[1]);
        due("another chain", x.may(0, 2, 500), 1);
        int[][] rests = {{0, 0}, {3, 0}, {4, 1}, {7, 1}, {8, 2}, {399, 99}, {400, 100}};
        for (int[] r : rests) {
            x.rest(r[0], 60);
            due("rest " + r[0] + ": just rested", x.may(0, 1, 500 + r[1]), 1);
            due("rest " + r[0] + ": a day less", x.may(0, 1, 500 + Math.max(0, r[1] - 1)), r[1] == 0 ? 1 : 0);
        }
    }

    private static void reach() {
        Checks.sentence("and the WAY from home is at most REACH (0 to 198; 60 at first).");
        SecretBuyers x = new SecretBuyers();
        int[][] places = {{0, 0}, {1, 0}, {30, 30}, {30, 31}, {98, 99}, {99, 99}};
        for (int[] p : places) x.shop(p[0], p[1], 0, 0, 1439, true);
        x.buyer(0, 0);
        int[] atFirst = {1, 1, 1, 0, 0, 0};
        int[] none = {1, 0, 0, 0, 0, 0};
        int[] short1 = {1, 1, 1, 1, 1, 0};
        for (int s = 0; s < 6; s++) due("60 at first, shop " + s, x.may(0, s, 0), atFirst[s]);
        due("0", x.rest(30, 0), true);
        for (int s = 0; s < 6; s++) due("0, shop " + s, x.may(0, s, 0), none[s]);
        due("197", x.rest(30, 197), true);
        for (int s = 0; s < 6; s++) due("197, shop " + s, x.may(0, s, 0), short1[s]);
        due("198", x.rest(30, 198), true);
        for (int s = 0; s < 6; s++) due("198, shop " + s, x.may(0, s, 0), 1);
        for (int wrong : Scenes.beside(0, 198)) due("reach " + wrong, x.rest(30, wrong), false);
    }

    private static void givenEight() {
        Checks.sentence("GIVEN for a set of SHOPS (8 at most) on a DAY:");
        SecretBuyers x = Scenes.plain(20, 8, 0);
        due("one", x.given(1 << 19, 0, 19), 0);
        due("eight", x.given(0xff, 0, 20), 0);
        due("eight others", x.given(0xff000, 0, 20), 0);
        due("the last of them", x.given(0xff000, 0, 19), 3);
        due("nine", x.given(0x1ff, 0, 20), NONE);
        due("nine, the first", x.given(0x1ff, 0, 0), NONE);
        due("twenty", x.given(0xfffff, 0, 20), NONE);
        due("none", x.given(0, 0, 20), NONE);
    }

    private static void givenTwoEach() {
        Checks.sentence("each SHOP gets a BUYER that may go, each BUYER at most 2 SHOPS;");
        SecretBuyers x = Scenes.plain(8, 3, 0);
        for (int n = 1; n <= 8; n++) due(n + " shops of three buyers", x.given((1 << n) - 1, 0, 20), n <= 6 ? 0 : NONE);
        int[] want = {0, 0, 1, 1, 2, 2};
        for (int s = 0; s < 6; s++) due("shop " + s, x.given(63, 0, s), want[s]);
        SecretBuyers y = Scenes.plain(2, 1, 100);
        Scenes.see(y, 0, 0, 50, 10);
        due("one that may not go", y.given(1, 60, 0), NONE);
        due("nor to both", y.given(3, 60, 20), NONE);
        due("to the other", y.given(2, 60, 1), 0);
        y.buyer(9, 9);
        due("another one then", y.given(1, 60, 0), 1);
        due("with its way", y.given(3, 60, 20), 18);
        SecretBuyers none = Scenes.plain(1, 0, 0);
        due("no buyer", none.given(1, 0, 20), NONE);
    }

    private static void givenLeast() {
        Checks.sentence("the sum of the WAYS from home is the least;");
        SecretBuyers x = new SecretBuyers();
        int[] at = {10, 11, 12};
        for (int a : at) x.shop(a, 0, 0, 0, 1439, true);
        x.buyer(0, 0);
        x.buyer(11, 0);
        due("two of the near one, the nearest of the far one", x.given(7, 0, 20), 11);
        due("the first is given up to the far one", x.given(7, 0, 0), 0);
        due("the second", x.given(7, 0, 1), 1);
        due("the third", x.given(7, 0, 2), 1);
        SecretBuyers far = new SecretBuyers();
        far.rest(0, 198);
        for (int i = 0; i < 8; i++) far.shop(99, 99, 0, 0, 1439, true);
        for (int i = 0; i < 4; i++) far.buyer(0, 0);
        due("the farthest", far.given(255, 0, 20), 8 * 198);
        due("the last one of them", far.given(255, 0, 7), 3);
    }

    private static void givenFirst() {
        Checks.sentence("of equal ones the least BUYER for the first SHOP, then for the next.");
        SecretBuyers x = Scenes.plain(4, 8, 0);
        int[] want = {0, 0, 1, 1};
        for (int s = 0; s < 4; s++) due("shop " + s, x.given(15, 0, s), want[s]);
        SecretBuyers y = new SecretBuyers();
        for (int a : new int[] {0, 10}) y.shop(a, 0, 0, 0, 1439, true);
        y.buyer(10, 0);
        y.buyer(0, 0);
        y.buyer(5, 0);
        y.buyer(0, 0);
        due("the least way goes first", y.given(3, 0, 0), 1);
        due("then the least buyer", y.given(3, 0, 1), 0);
        SecretBuyers z = new SecretBuyers();
        for (int a : new int[] {4, 6, 5}) z.shop(a, 0, 0, 0, 1439, true);
        z.buyer(5, 0);
        z.buyer(5, 0);
        int[] all = {0, 0, 1};
        for (int s = 0; s < 3; s++) due("by the shop's number, " + s, z.given(7, 0, s), all[s]);
    }

    private static void drawnNumbers() {
        Checks.sentence("by a number g (0 to 2147483647): for each SHOP up to it, by numbers, g becomes (g * 1103515245 + 12345) modulo 2147483648 once;");
        SecretBuyers x = Scenes.plain(20, 1, 0);
        for (int g : new int[] {0, 1, 5, 65535, 65536, 1000000007, 2147483646, 2147483647}) {
            long h = g;
            for (int s = 0; s < 20; s++) {
                h = (h * 1103515245L + 12345L) & 0x7fffffffL;
                due("g " + g + ", shop " + s, x.drawn(s, 100, g), 700 + h / 65536 % 7);
            }
        }
        for (int g : new int[] {-1, Integer.MIN_VALUE}) due("g " + g, x.drawn(0, 100, g), NONE);
    }

    private static void drawnDays() {
        Checks.sentence("of those DAYS of the WEEK that are not the same DAY of the week (DAY modulo 7) as that of its latest VISIT (by DAY, MINUTE, number) in THE VIEW.");
        for (int barred = 0; barred < 7; barred++) {
            SecretBuyers x = Scenes.plain(1, 1, 100);
            Scenes.see(x, 0, 0, 70 + barred, 10);
            for (int g = 0; g < 60; g++) {
                long h = (g * 1103515245L + 12345L) & 0x7fffffffL;
                int nth = (int) (h / 65536 % 6);
                due("barred " + barred + ", g " + g, x.drawn(0, 0, g), nth < barred ? nth : nth + 1);
            }
        }
        SecretBuyers x = Scenes.plain(2, 1, 100);
        due("no visit: of seven", x.drawn(0, 4, 0), 28);
        Scenes.see(x, 1, 0, 70, 10);
        due("another shop's visit", x.drawn(0, 4, 0), 28);
        Scenes.seeAt(x, 0, 0, 70, 600);
        due("barred 0", x.drawn(0, 4, 0), 29);
        Scenes.seeAt(x, 0, 0, 69, 700);
        due("an earlier one told later", x.drawn(0, 4, 0), 29);
        x.days(1);
        x.visit(0, 0, 71, 600, 10, 2, NONE);
        due("one that does not count is the latest", x.drawn(0, 4, 0), 28);
        x.view(100);
        due("not in the view", x.drawn(0, 4, 0), 29);
        x.view(99);
        due("none in the view", x.drawn(0, 4, 0), 28);
    }

    // ---- 6

    private static void edge() {
        Checks.sentence("EDGE of a SHOP on its latest VISIT in THE VIEW: for each item of its form turned over alone, by how much BONUS would change.");
        SecretBuyers x = Scenes.plain(1, 1, 100);
        Checks.tell(x, "bonus 40 when item 11; bonus 25 when item 0;", 0, 0);
        due("no visit", x.sway(0, 0), NONE);
        x.visit(0, 0, 50, 600, 10, 1, NONE);
        due("up by the last item", x.sway(0, 0), 0);
        due("down by 25 is more than up by 15", x.sway(0, 1), 25);
        x.visit(0, 0, 49, 600, 10, 0, NONE);
        due("one ahead of it", x.sway(0, 1), 25);
        x.days(1);
        x.visit(0, 0, 50, 601, 10, 2, NONE);
        due("the latest, which does not count", x.sway(0, 0), 11);
        due("up by 40", x.sway(0, 1), 40);
        x.appeal(2, 11);
        due("with an appeal: down by 40", x.sway(0, 1), 40);
        x.view(100);
        due("not in the view", x.sway(0, 1), 25);
        x.view(99);
        due("none in the view", x.sway(0, 1), NONE);
    }

    private static void sway() {
        Checks.sentence("SWAY: the greatest such (of equal ones the first item), above 0; none if there is none.");
        due("no bonus at all", swayBy("add 5 when 1;", 0), NONE);
        due("no bonus at all", swayBy("add 5 when 1;", 1), NONE);
        due("always the same", swayBy("bonus 5 when 1;", 0), NONE);
        due("no single item", swayBy("bonus 5 when item 3 and item 4;", 1), NONE);
        due("by 1", swayBy("bonus 1 when item 7;", 1), 1);
        due("by 9999", swayBy("bonus 9999 when item 7;", 1), 9999);
        due("of equal ones the first", swayBy("bonus 5 when item 9 or item 4 or item 6;", 0), 4);
        due("the greater one of a later item", swayBy("bonus 7 when item 11; bonus 6 when item 4;", 0), 11);
        due("item 0", swayBy("bonus 5 when item 0;", 0), 0);
        due("item 11", swayBy("bonus 5 when item 11;", 0), 11);
        due("by a must line", swayBy("must not item 2; bonus 8 when 1;", 0), 2);
        due("by a must line, to 0", swayBy("must not item 2; bonus 8 when 1;", 1), 8);
        due("by how many are yes", swayBy("bonus 8 when all = 2;", 0), 1);
        SecretBuyers x = Scenes.plain(1, 1, 0);
        x.visit(0, 0, 0, 600, 10, 4095, NONE);
        Checks.tell(x, "bonus 8 when all < 13;", 0, 0);
        due("there is no item 12", x.sway(0, 1), NONE);
    }

    private static int swayBy(String text, int what) {
        SecretBuyers x = Scenes.plain(1, 1, 0);
        Scenes.see(x, 0, 0, 0, 10);
        due("brief '" + text + "'", Checks.tell(x, text, 0, 0), 0);
        return x.sway(0, what);
    }

    private static void sum() {
        Checks.sentence("SUM of a CHAIN from a DAY to a DAY: all BONUSES of its SHOPS' VISITS that count on these DAYS.");
        SecretBuyers x = new SecretBuyers();
        for (int chain : new int[] {0, 1, 0}) x.shop(0, 0, chain, 0, 1439, true);
        x.buyer(0, 0);
        x.days(200);
        for (int chain = 0; chain < 2; chain++) Checks.tell(x, "bonus 9999 when item 1; bonus 10 when minutes = 10; bonus 100 when 1;", chain, 0);
        due("no visit", x.sum(0, 0, 0, 9999), 0);
        Scenes.see(x, 0, 0, 10, 10);
        Scenes.see(x, 2, 0, 20, 20);
        Scenes.see(x, 1, 0, 30, 10);
        x.visit(0, 0, 15, 600, 10, 2, NONE);
        due("both shops, no other chain, none that does not count", x.sum(0, 0, 0, 9999), 110);
        due("the first day is in", x.sum(0, 0, 10, 19), 10);
        due("the last day is in", x.sum(0, 0, 11, 20), 100);
        due("between", x.sum(0, 0, 11, 19), 0);
        due("the other chain", x.sum(0, 1, 0, 9999), 10);
        for (int i = 0; i < 116; i++) x.visit(0, 0, 50 + i, 600, 10, 3, NONE);
        due("the most", x.sum(0, 0, 0, 9999), 110 + 116 * 9999);
    }

    private static void fees() {
        Checks.sentence("FEE (0 to 999; 20 at first) for each that counts, and PACE / 5, cut, for each of the WAY from home and back.");
        SecretBuyers x = new SecretBuyers();
        x.shop(3, 0, 0, 0, 1439, true);
        x.buyer(0, 4);
        x.buyer(3, 0);
        x.days(100);
        due("no visit", x.sum(1, 0, 0, 9999), 0);
        Scenes.see(x, 0, 0, 10, 10);
        due("20 at first, and 5 / 5", x.sum(1, 0, 0, 9999), 20 + 14);
        int[][] paces = {{1, 0}, {4, 0}, {5, 1}, {9, 1}, {10, 2}, {59, 11}, {60, 12}};
        for (int[] p : paces) {
            x.terms(p[0], 0, 60);
            due("pace " + p[0], x.sum(1, 0, 0, 9999), 14 * p[1]);
        }
        due("999", x.terms(5, 999, 60), true);
        due("of 999", x.sum(1, 0, 0, 9999), 999 + 14);
        for (int wrong : Scenes.beside(0, 999)) due("fee " + wrong, x.terms(5, wrong, 60), false);
        x.visit(0, 0, 20, 600, 10, 2, NONE);
        due("one that does not count", x.sum(1, 0, 0, 9999), 999 + 14);
        Scenes.see(x, 0, 1, 30, 10);
        due("one who lives there", x.sum(1, 1, 30, 30), 999);
        due("a day ahead", x.sum(1, 1, 0, 29), 0);
        due("a day behind", x.sum(1, 1, 31, 9999), 0);
    }
}
