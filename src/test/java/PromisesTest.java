/** Each promise by hand: ordinary inputs, the edges that the document names, and wrong inputs. */
public final class PromisesTest {
    private static final int NONE = SecretBuyers.NONE;
    private static final int LEAST = Integer.MIN_VALUE;
    private static final int MOST = Integer.MAX_VALUE;

    public static void main(String[] args) {
        newObject();
        days();
        view();
        shop();
        buyer();
        terms();
        rest();
        visit();
        appeal();
        briefWrong();
        lookWrong();
        falseAlone();
        falseTogether();
        leastSets();
        strict();
        meansAndDoubts();
        apartAndEnough();
        order();
        may();
        given();
        givenWrong();
        drawn();
        sway();
        sums();
        counts();
        asKnown();
        Checks.end("PromisesTest");
    }

    private static void due(String what, long got, long want) {
        Checks.due(what, got, want);
    }

    private static void due(String what, boolean got, boolean want) {
        Checks.due(what, got, want);
    }

    private static void newObject() {
        SecretBuyers x = new SecretBuyers();
        due("NONE", SecretBuyers.NONE, -1);
        for (int what = 0; what <= 11; what++) due("new count " + what, x.count(what), 0);
        due("no shop", x.drawn(0, 0, 0), NONE);
        due("no buyer", x.fewest(0, 0), NONE);
        Checks.noSuch("no visit", () -> x.look(0, 0));
        SecretBuyers y = new SecretBuyers();
        x.shop(0, 0, 0, 0, 0, true);
        due("objects are apart", y.count(2), 0);
    }

    private static void days() {
        SecretBuyers x = new SecretBuyers();
        due("days 0", x.days(0), 0);
        due("days 1000", x.days(1000), 1000);
        due("days 1001", x.days(1001), NONE);
        due("days -1", x.days(-1), NONE);
        due("days least", x.days(LEAST), NONE);
        due("days most", x.days(MOST), NONE);
        for (int i = 2; i <= 9; i++) x.days(1000);
        due("days 999", x.days(999), 9999);
        due("beyond 9999", x.days(1), NONE);
        due("still 9999", x.days(0), 9999);
    }

    private static void view() {
        SecretBuyers x = new SecretBuyers();
        due("view 0", x.view(0), true);
        due("view 1", x.view(1), false);
        x.days(10);
        due("it goes along", x.count(1), 10);
        due("view -1", x.view(-1), false);
        due("view 11", x.view(11), false);
        due("view least", x.view(LEAST), false);
        due("view 3", x.view(3), true);
        x.days(5);
        due("it stays", x.count(1), 3);
        due("false changes nothing", x.view(16), false);
        due("it stays", x.count(1), 3);
        due("view 10, which was now", x.view(10), true);
        x.days(1);
        due("it stays", x.count(1), 10);
        due("view now", x.view(16), true);
        x.days(1);
        due("it goes along again", x.count(1), 17);
    }

    private static void shop() {
        SecretBuyers x = new SecretBuyers();
        due("least", x.shop(0, 0, 0, 0, 0, false), 0);
        due("most", x.shop(99, 99, 3, 1439, 1439, true), 1);
        due("x -1", x.shop(-1, 0, 0, 0, 1, true), NONE);
        due("x 100", x.shop(100, 0, 0, 0, 1, true), NONE);
        due("y -1", x.shop(0, -1, 0, 0, 1, true), NONE);
        due("y 100", x.shop(0, 100, 0, 0, 1, true), NONE);
        due("chain -1", x.shop(0, 0, -1, 0, 1, true), NONE);
        due("chain 4", x.shop(0, 0, 4, 0, 1, true), NONE);
        due("from -1", x.shop(0, 0, 0, -1, 1, true), NONE);
        due("to 1440", x.shop(0, 0, 0, 0, 1440, true), NONE);
        due("from above to", x.shop(0, 0, 0, 2, 1, true), NONE);
        due("all most", x.shop(MOST, MOST, MOST, MOST, MOST, true), NONE);
        for (int i = 2; i < 20; i++) due("shop " + i, x.shop(i, 0, 0, 0, 1, true), i);
        due("20 are there", x.shop(0, 0, 0, 0, 1, true), NONE);
        due("20 are there", x.count(2), 20);
    }

    private static void buyer() {
        SecretBuyers x = new SecretBuyers();
        due("least", x.buyer(0, 0), 0);
        due("most", x.buyer(99, 99), 1);
        due("x -1", x.buyer(-1, 0), NONE);
        due("x 100", x.buyer(100, 0), NONE);
        due("y -1", x.buyer(0, -1), NONE);
        due("y 100", x.buyer(0, 100), NONE);
        for (int i = 2; i < 8; i++) due("buyer " + i, x.buyer(i, 0), i);
        due("8 are there", x.buyer(0, 0), NONE);
        due("8 are there", x.count(3), 8);
    }

    private static void terms() {
        SecretBuyers x = town();
        due("least", x.terms(1, 0, 0), true);
        due("most", x.terms(60, 999, 1000), true);
        due("pace 0", x.terms(0, 1, 1), false);
        due("pace 61", x.terms(61, 1, 1), false);
        due("fee -1", x.terms(1, -1, 1), false);
        due("fee 1000", x.terms(1, 1000, 1), false);
        due("spread -1", x.terms(1, 1, -1), false);
        due("spread 1001", x.terms(1, 1, 1001), false);
        x.visit(0, 0, 5, 600, 10, 1, -1);
        due("false changes nothing", x.sum(1, 0, 0, 9999), 999);
        due("false changes nothing", x.doubt(0, 0, 9999), 100000);
    }

    private static void rest() {
        SecretBuyers x = town();
        due("least", x.rest(0, 0), true);
        due("most", x.rest(400, 198), true);
        due("rest -1", x.rest(-1, 1), false);
        due("rest 401", x.rest(401, 1), false);
        due("reach -1", x.rest(1, -1), false);
        due("reach 199", x.rest(1, 199), false);
        x.visit(0, 0, 5, 600, 10, 1, -1);
        due("false changes nothing", x.may(0, 0, 404), 0);
        due("false changes nothing", x.may(0, 0, 405), 1);
    }

    /** Day 100; shops 0 at 0, 0 and 1 at 10, 0 of chain 0, 2 at 0, 20 of chain 1; buyers at 0, 0 and 10, 0; all day open. */
    private static SecretBuyers town() {
        SecretBuyers x = new SecretBuyers();
        x.shop(0, 0, 0, 0, 1439, true);
        x.shop(10, 0, 0, 0, 1439, false);
        x.shop(0, 20, 1, 0, 1439, true);
        x.buyer(0, 0);
        x.buyer(10, 0);
        x.days(100);
        return x;
    }

    private static void visit() {
        SecretBuyers x = town();
        due("least", x.visit(0, 0, 0, 0, 1, 0, 0), 0);
        due("most", x.visit(2, 1, 100, 1439, 300, 4095, 1439), 1);
        due("no receipt", x.visit(1, 1, 100, 5, 5, 5, NONE), 2);
        due("shop -1", x.visit(-1, 0, 0, 0, 1, 0, 0), NONE);
        due("shop 3", x.visit(3, 0, 0, 0, 1, 0, 0), NONE);
        due("buyer -1", x.visit(0, -1, 0, 0, 1, 0, 0), NONE);
        due("buyer 2", x.visit(0, 2, 0, 0, 1, 0, 0), NONE);
        due("day -1", x.visit(0, 0, -1, 0, 1, 0, 0), NONE);
        due("day 101", x.visit(0, 0, 101, 0, 1, 0, 0), NONE);
        due("minute -1", x.visit(0, 0, 0, -1, 1, 0, 0), NONE);
        due("minute 1440", x.visit(0, 0, 0, 1440, 1, 0, 0), NONE);
        due("minutes 0", x.visit(0, 0, 0, 0, 0, 0, 0), NONE);
        due("minutes 301", x.visit(0, 0, 0, 0, 301, 0, 0), NONE);
        due("form -1", x.visit(0, 0, 0, 0, 1, -1, 0), NONE);
        due("form 4096", x.visit(0, 0, 0, 0, 1, 4096, 0), NONE);
        due("receipt -2", x.visit(0, 0, 0, 0, 1, 0, -2), NONE);
        due("receipt 1440", x.visit(0, 0, 0, 0, 1, 0, 1440), NONE);
        due("all least", x.visit(LEAST, LEAST, LEAST, LEAST, LEAST, LEAST, LEAST), NONE);
        SecretBuyers y = town();
        for (int i = 0; i < 12; i++) due("of a day from the first on " + i, y.visit(0, 0, 50, 10, 1, 2, NONE), i);
        due("the buyer has 12", y.visit(1, 0, 50, 10, 1, 2, NONE), NONE);
        for (int i = 0; i < 12; i++) due("of a day " + i, x.visit(0, 0, 50, 10, 1, 2, NONE), 3 + i);
        due("the buyer has 12", x.visit(1, 0, 50, 10, 1, 2, NONE), NONE);
        due("another has not", x.visit(0, 1, 50, 10, 1, 2, NONE), 15);
        due("another day", x.visit(0, 0, 51, 10, 1, 2, NONE), 16);
        for (int i = 17; i < 120; i++) due("visit " + i, x.visit(0, 0, i % 50, 10, 1, 2, NONE), i);
        due("120 are there", x.visit(0, 1, 90, 10, 1, 2, NONE), NONE);
        due("120 are there", x.count(4), 120);
    }

    private static void appeal() {
        SecretBuyers x = town();
        x.visit(0, 0, 5, 600, 10, 3, NONE);
        x.visit(1, 0, 6, 600, 10, 3, NONE);
        due("item 0", x.appeal(0, 0), true);
        due("item 11", x.appeal(0, 11), true);
        due("turned over", x.look(0, 2), 2 | 1 << 11);
        due("no tape", x.appeal(1, 0), false);
        due("visit -1", x.appeal(-1, 0), false);
        due("visit 2", x.appeal(2, 0), false);
        due("item -1", x.appeal(0, -1), false);
        due("item 12", x.appeal(0, 12), false);
        due("visit most", x.appeal(MOST, 0), false);
        x.days(14);
        due("14 behind the day of telling", x.appeal(0, 0), true);
        due("turned back", x.look(0, 2), 3 | 1 << 11);
        due("as known ahead", x.view(113) && x.look(0, 2) == (2 | 1 << 11), true);
        due("also while the view stands", x.appeal(0, 1), true);
        due("which does not see it", x.look(0, 2), 2 | 1 << 11);
        due("now it does", x.view(114) && x.look(0, 2) == (1 | 1 << 11), true);
        x.days(1);
        due("15 behind", x.appeal(0, 0), false);
        due("ahead of the visit's telling", x.view(99), true);
        x.visit(0, 0, 5, 900, 10, 3, NONE);
        due("a visit out of the view can be appealed", x.appeal(2, 2), true);
        for (int i = 5; i < 60; i++) due("appeal " + i, x.appeal(2, 2), true);
        due("60 are there", x.appeal(2, 2), false);
        due("60 are there", x.count(7), 60);
        x.view(115);
        due("56 times turned", x.look(2, 2), 3);
    }

    private static void briefWrong() {
        SecretBuyers x = new SecretBuyers();
        due("chain -1", Checks.tell(x, "must 1;", -1, 0), -1);
        due("the tape is empty", x.count(9), 0);
        due("chain 4", Checks.tell(x, "must 1;", 4, 0), -1);
        due("day -1", Checks.tell(x, "must 1;", 0, -1), -1);
        due("day 10000", Checks.tell(x, "must 1;", 0, 10000), -1);
        due("the tape is empty", x.count(9), 0);
        due("none kept", x.count(8), 0);
        due("a fault", Checks.tell(x, "must", 0, 0), 65);
        due("none kept", x.count(8), 0);
        for (int i = 0; i < 16; i++) due("brief " + i, Checks.tell(x, "must 1;", i % 4, 9999 - i), 0);
        due("16 are there", Checks.tell(x, "must 1;", 0, 0), -1);
        due("the tape is empty", x.count(9), 0);
        due("16 are there", x.count(8), 16);
    }

    private static void lookWrong() {
        SecretBuyers x = town();
        x.visit(0, 0, 5, 600, 10, 3, NONE);
        due("form", x.look(0, 2), 3);
        for (int what : new int[] {-1, 6, MOST, LEAST}) Checks.noSuch("look what " + what, () -> x.look(0, what));
        for (int v : new int[] {-1, 1, MOST, LEAST}) {
            Checks.noSuch("look " + v, () -> x.look(v, 0));
            Checks.noSuch("fair " + v, () -> x.fair(v));
        }
        x.view(99);
        for (int what = 0; what < 6; what++) {
            int asked = what;
            Checks.noSuch("out of the view", () -> x.look(0, asked));
        }
        Checks.noSuch("out of the view", () -> x.fair(0));
        x.view(100);
        due("in it again", x.fair(0), 0);
    }

    private static void falseAlone() {
        SecretBuyers x = new SecretBuyers();
        x.shop(0, 0, 0, 480, 500, true);
        x.buyer(0, 0);
        x.days(9);
        int[][] cases = {
            // minute, minutes, form, receipt, what look tells
            {480, 21, 1, -1, 0}, {480, 22, 1, -1, 1}, {479, 10, 1, -1, 1}, {500, 1, 1, -1, 0}, {500, 2, 1, -1, 1},
            {490, 5, 1, 490, 0}, {490, 5, 1, 494, 0}, {490, 5, 1, 495, 1}, {490, 5, 1, 489, 1},
            {490, 5, 0, -1, 0}, {490, 5, 2, -1, 1}, {490, 5, 4094, -1, 1}, {490, 5, 4095, -1, 0}, {490, 5, 2048, -1, 1}};
        for (int i = 0; i < cases.length; i++) {
            int[] c = cases[i];
            SecretBuyers y = new SecretBuyers();
            y.shop(0, 0, 0, 480, 500, true);
            y.buyer(0, 0);
            y.visit(0, 0, 0, c[0], c[1], c[2], c[3]);
            due("alone " + i, y.look(0, 3), c[4]);
            due("counts " + i, y.look(0, 4), 1 - c[4]);
            due("false by themselves " + i, y.count(10), c[4]);
            due("fewest leaves it out " + i, y.fewest(0, 0), 0);
        }
        x.visit(0, 0, 3, 480, 10, 2, -1);
        x.visit(0, 0, 3, 485, 10, 1, -1);
        due("does not stand in the other's way", x.look(1, 3), 0);
        x.appeal(0, 0);
        due("turned over it can be alone, not with the other", x.look(0, 3), 3);
        due("and the other", x.look(1, 3), 3);
        x.appeal(1, 0);
        x.appeal(1, 5);
        due("and false by an appeal", x.look(1, 3), 1);
        due("the first can be", x.look(0, 3), 0);
    }

    private static void falseTogether() {
        SecretBuyers x = town();
        x.visit(0, 0, 10, 600, 30, 1, -1);
        x.visit(1, 0, 10, 680, 10, 1, -1);
        due("just in time", x.fewest(0, 10), 0);
        x.terms(6, 20, 60);
        due("too late by the pace", x.fewest(0, 10), 1);
        x.terms(5, 20, 60);
        x.visit(1, 0, 11, 600, 30, 1, -1);
        x.visit(0, 0, 11, 679, 10, 1, -1);
        due("a minute too early", x.fewest(0, 11), 1);
        due("set", x.set(0, 11, 0), 2);
        x.visit(0, 0, 12, 600, 30, 1, -1);
        x.visit(0, 0, 12, 600, 30, 1, -1);
        due("the same minute", x.fewest(0, 12), 1);
        x.visit(0, 1, 12, 600, 30, 1, -1);
        due("another buyer", x.look(6, 3), 0);
        x.visit(0, 0, 13, 1400, 300, 1, -1);
        x.visit(0, 0, 14, 0, 10, 1, -1);
        due("another day", x.look(8, 3), 0);
        x.visit(0, 0, 15, 600, 30, 1, -1);
        x.visit(0, 0, 15, 630, 30, 1, -1);
        x.visit(0, 0, 15, 629, 30, 1, -1);
        due("the third stands in the way of two", x.look(11, 3), 2);
        due("so it does not count", x.look(11, 4), 0);
        due("and they do", x.look(9, 3) + x.look(10, 3), 0);
        due("over all", x.count(11), 3);
    }

    private static void leastSets() {
        SecretBuyers x = town();
        // 0 and 3 clash, 1 and 2 clash, 4 stands for itself
        x.visit(0, 0, 10, 900, 30, 1, -1);
        x.visit(0, 0, 10, 600, 30, 1, -1);
        x.visit(0, 0, 10, 610, 30, 1, -1);
        x.visit(0, 0, 10, 910, 30, 1, -1);
        x.visit(0, 0, 10, 1200, 30, 1, -1);
        due("two pairs", x.fewest(0, 10), 2);
        due("first", x.set(0, 10, 0), 0);
        due("second", x.set(0, 10, 1), 1);
        due("third", x.set(0, 10, 2), NONE);
        due("-1", x.set(0, 10, -1), NONE);
        due("most", x.set(0, 10, MOST), NONE);
        int[] states = {3, 3, 3, 3, 0};
        for (int i = 0; i < states.length; i++) due("state " + i, x.look(i, 3), states[i]);
        due("all count", x.count(6), 5);
        // 5 - 6 - 7 - 8 in a row: two of the middle or an end each
        x.visit(0, 0, 20, 600, 30, 1, -1);
        x.visit(0, 0, 20, 620, 30, 1, -1);
        x.visit(0, 0, 20, 640, 30, 1, -1);
        x.visit(0, 0, 20, 660, 30, 1, -1);
        due("a row of four", x.fewest(0, 20), 2);
        due("a row of four, first", x.set(0, 20, 0), 5);
        due("a row of four, second", x.set(0, 20, 1), 7);
        for (int i = 5; i < 9; i++) due("may be " + i, x.look(i, 3), 3);
        for (int i = 0; i < 12; i++) x.visit(0, 1, 30, 600 + i, 30, 1, -1);
        due("twelve at once", x.fewest(1, 30), 11);
        due("twelve at once, the last", x.set(1, 30, 10), 19);
        due("fewest, buyer -1", x.fewest(-1, 10), NONE);
        due("fewest, buyer 2", x.fewest(2, 10), NONE);
        due("fewest, day -1", x.fewest(0, -1), NONE);
        due("fewest, day 10000", x.fewest(0, 10000), NONE);
        due("fewest, day 9999", x.fewest(0, 9999), 0);
        for (int wrong : new int[] {-1, 2, MOST, LEAST}) due("set, buyer " + wrong, x.set(wrong, 10, 0), NONE);
        for (int wrong : new int[] {-1, 10000, MOST, LEAST}) due("set, day " + wrong, x.set(0, wrong, 0), NONE);
        for (int wrong : new int[] {11, 12, 13, LEAST}) due("set, i " + wrong, x.set(1, 30, wrong), NONE);
        due("over all", x.count(11), 15);
    }

    /** Buyers 0, 1, 2 in shops 0 and 1; the score is 100 for each yes behind item 0. */
    private static SecretBuyers scored() {
        SecretBuyers x = town();
        x.buyer(50, 50);
        Checks.due("brief", Checks.tell(x, "add 100 * (all - 1) when all; bonus 7 when 2 < all;", 0, 0), 0);
        return x;
    }

    private static void strict() {
        SecretBuyers x = scored();
        x.visit(0, 0, 7, 600, 10, 7, -1);
        x.visit(0, 1, 13, 600, 10, 3, -1);
        Checks.noSuch("one meeting", () -> x.lean(0));
        due("one meeting", x.meetings(0, 1), 1);
        due("fair without a lean", x.fair(0), 200);
        x.visit(0, 1, 14, 600, 10, 3, -1);
        due("another week", x.meetings(1, 0), 1);
        x.visit(0, 1, 8, 600, 10, 1, -1);
        due("two meetings", x.meetings(0, 1), 2);
        due("lean", x.lean(0), 150);
        due("lean of the other", x.lean(1), -150);
        due("fair", x.fair(0), 50);
        due("fair of the other", x.fair(2), 250);
        x.visit(0, 2, 9, 600, 10, 3, -1);
        due("cut towards 0", x.lean(0), (100 + 200 + 100) / 3);
        due("cut towards 0, below it", x.lean(1), (-100 - 200 + 0 - 100) / 4);
        due("of the third", x.lean(2), (-100 + 0 + 100) / 3);
        x.visit(0, 0, 10, 600, 10, 2, -1);
        due("one that does not count meets none", x.meetings(0, 1), 2);
        x.visit(0, 0, 11, 600, 10, 1, -1);
        due("each pair", x.meetings(0, 1), 4);
        x.visit(1, 1, 7, 600, 10, 1, -1);
        due("another shop", x.meetings(0, 1), 4);
        due("meetings of the same", x.meetings(0, 0), NONE);
        due("meetings -1", x.meetings(-1, 0), NONE);
        due("meetings 3", x.meetings(0, 3), NONE);
        Checks.noSuch("lean -1", () -> x.lean(-1));
        Checks.noSuch("lean 3", () -> x.lean(3));
        Checks.noSuch("lean most", () -> x.lean(MOST));
    }

    private static void meansAndDoubts() {
        SecretBuyers x = scored();
        x.visit(0, 0, 7, 600, 10, 7, -1);
        x.visit(0, 0, 20, 600, 10, 3, -1);
        x.visit(0, 0, 30, 600, 10, 3, -1);
        x.visit(0, 0, 40, 600, 10, 2, -1);
        due("mean", x.mean(0, 0, 9999), 40000 / 3);
        due("doubt", x.doubt(0, 0, 9999), 2000);
        due("to and from are in", x.mean(0, 7, 20), 15000);
        due("one day", x.mean(0, 7, 7), 20000);
        due("doubt of one day", x.doubt(0, 7, 7), 6000);
        Checks.noSuch("none counts", () -> x.mean(0, 31, 9999));
        due("none counts", x.doubt(0, 31, 9999), NONE);
        Checks.noSuch("from above to", () -> x.mean(0, 8, 7));
        due("from above to", x.doubt(0, 8, 7), NONE);
        Checks.noSuch("from -1", () -> x.mean(0, -1, 9));
        due("from -1", x.doubt(0, -1, 9), NONE);
        Checks.noSuch("to 10000", () -> x.mean(0, 0, 10000));
        due("to 10000", x.doubt(0, 0, 10000), NONE);
        Checks.noSuch("shop -1", () -> x.mean(-1, 0, 9));
        Checks.noSuch("shop 3", () -> x.mean(3, 0, 9));
        due("shop -1", x.doubt(-1, 0, 9), NONE);
        due("shop 3", x.doubt(3, 0, 9), NONE);
        x.terms(5, 20, 7);
        due("doubt is cut", x.doubt(0, 0, 9999), 233);
        x.terms(5, 20, 0);
        due("no doubt", x.doubt(0, 0, 9999), 0);
        SecretBuyers y = scored();
        y.visit(1, 0, 7, 600, 10, 7, -1);
        y.visit(1, 1, 7, 600, 10, 1, -1);
        y.visit(1, 1, 8, 600, 10, 3, -1);
        y.visit(1, 0, 50, 600, 10, 1, -1);
        due("a lean of 150 and of -150", y.lean(0), 150);
        due("a mean below 0", y.mean(1, 50, 50), -15000);
        y.visit(1, 1, 15, 600, 10, 1, -1);
        y.visit(1, 2, 51, 600, 10, 1, -1);
        due("three meetings", y.lean(0), 100);
        y.visit(1, 2, 52, 600, 10, 1, -1);
        due("below 0, cut towards it", y.mean(1, 50, 52), 100 * -75 / 3);
    }

    private static void apartAndEnough() {
        SecretBuyers x = scored();
        x.terms(5, 20, 100);
        x.visit(0, 0, 7, 600, 10, 7, -1);
        x.visit(1, 0, 21, 600, 10, 1, -1);
        due("just as much as both doubts", x.apart(0, 1, 0, 9999), 0);
        due("to one visit each it is not", x.enough(0, 1, 0, 9999), 2);
        x.terms(5, 20, 99);
        due("more", x.apart(0, 1, 0, 9999), 2);
        due("less", x.apart(1, 0, 0, 9999), 1);
        due("one is enough", x.enough(1, 0, 0, 9999), 1);
        x.terms(5, 20, 1000);
        due("enough", x.enough(1, 0, 0, 9999), 11);
        due("the same", x.apart(1, 1, 0, 9999), NONE);
        due("the same", x.enough(1, 1, 0, 9999), NONE);
        due("no mean", x.apart(0, 2, 0, 9999), NONE);
        due("no mean", x.enough(2, 0, 0, 9999), NONE);
        for (int shop : new int[] {-1, 3, MOST, LEAST}) {
            due("no shop " + shop, x.apart(0, shop, 0, 9999), NONE);
            due("no shop " + shop, x.apart(shop, 0, 0, 9999), NONE);
            due("no shop " + shop, x.enough(0, shop, 0, 9999), NONE);
            due("no shop " + shop, x.enough(shop, 0, 0, 9999), NONE);
        }
        due("not on these days", x.apart(0, 1, 0, 20), NONE);
        due("from above to", x.apart(0, 1, 30, 0), NONE);
        due("to 10000", x.enough(0, 1, 0, 10000), NONE);
        farApart();
    }

    private static void farApart() {
        SecretBuyers x = town();
        Checks.tell(x, "add minutes when 1;", 0, 0);
        x.visit(0, 0, 7, 600, 101, 1, -1);
        x.visit(1, 0, 21, 600, 100, 1, -1);
        x.terms(5, 20, 499);
        due("100 apart: 998", x.enough(0, 1, 0, 99), 999);
        x.terms(5, 20, 498);
        due("100 apart, one less", x.enough(0, 1, 0, 99), 997);
        x.terms(5, 20, 500);
        due("999 are not", x.enough(0, 1, 0, 99), NONE);
        x.terms(5, 20, 0);
        due("no doubt", x.enough(0, 1, 0, 99), 1);
        SecretBuyers y = town();
        y.terms(5, 20, 0);
        y.visit(0, 0, 7, 600, 10, 1, -1);
        y.visit(1, 0, 21, 600, 10, 1, -1);
        due("equal means", y.apart(0, 1, 0, 99), 0);
        due("equal means are never apart", y.enough(0, 1, 0, 99), NONE);
    }

    private static void order() {
        SecretBuyers x = new SecretBuyers();
        int[] scores = {500, 100, 300, 320, 900};
        for (int i = 0; i < 7; i++) x.shop(0, 0, i == 5 ? 1 : 0, 0, 1439, true);
        x.buyer(0, 0);
        x.days(100);
        Checks.tell(x, "add minutes * 20 when 1;", 0, 0);
        for (int i = 0; i < scores.length; i++) x.visit(i, 0, 10 + i, 600, scores[i] / 20, 1, -1);
        x.visit(6, 0, 80, 600, 10, 2, -1);
        due("100, 300 or 320, 500, 900", x.order(0, 0, 9999, 0), 4);
        due("the one ahead of all", x.order(0, 0, 9999, 1), 16);
        x.terms(5, 20, 100);
        due("100, 320, 900", x.order(0, 0, 9999, 0), 3);
        x.terms(5, 20, 250);
        due("100, 900", x.order(0, 0, 9999, 0), 2);
        due("900 and 500 are not apart", x.order(0, 0, 9999, 1), 16 | 1);
        due("on fewer days", x.order(0, 10, 12, 1), 1 | 2 | 4);
        due("on fewer days", x.order(0, 10, 12, 0), 1);
        due("one shop", x.order(0, 14, 14, 0), 1);
        due("none has a mean", x.order(0, 15, 9999, 0), NONE);
        due("none has a mean", x.order(1, 0, 9999, 1), NONE);
        due("chain -1", x.order(-1, 0, 9999, 0), NONE);
        due("chain 4", x.order(4, 0, 9999, 0), NONE);
        due("from above to", x.order(0, 9, 8, 0), NONE);
        due("to 10000", x.order(0, 0, 10000, 0), NONE);
        due("from -1", x.order(0, -1, 9, 0), NONE);
        due("what -1", x.order(0, 0, 9999, -1), NONE);
        due("what 2", x.order(0, 0, 9999, 2), NONE);
    }

    private static void may() {
        SecretBuyers x = town();
        x.visit(0, 0, 50, 600, 10, 2, -1);
        due("29 ahead", x.may(0, 0, 21), 0);
        due("30 ahead", x.may(0, 0, 20), 1);
        due("29 behind", x.may(0, 0, 79), 0);
        due("30 behind", x.may(0, 0, 80), 1);
        due("of the chain, 6", x.may(0, 1, 56), 0);
        due("of the chain, 7", x.may(0, 1, 57), 1);
        due("of the chain, 6 ahead", x.may(0, 1, 44), 0);
        due("of the chain, 7 ahead", x.may(0, 1, 43), 1);
        due("another chain", x.may(0, 2, 50), 1);
        due("another buyer", x.may(1, 0, 50), 1);
        x.rest(3, 20);
        due("rest 3: 2", x.may(0, 0, 52), 0);
        due("rest 3: 3", x.may(0, 0, 53), 1);
        due("3 / 4 is 0", x.may(0, 1, 50), 1);
        due("reach 20", x.may(0, 2, 90), 1);
        due("30 away", x.may(1, 2, 90), 0);
        x.rest(3, 19);
        due("reach 19", x.may(0, 2, 90), 0);
        x.rest(30, 60);
        x.view(99);
        due("not in the view", x.may(0, 0, 50), 1);
        due("buyer -1", x.may(-1, 0, 50), NONE);
        due("buyer 2", x.may(2, 0, 50), NONE);
        due("shop -1", x.may(0, -1, 50), NONE);
        due("shop 3", x.may(0, 3, 50), NONE);
        due("day -1", x.may(0, 0, -1), NONE);
        due("day 10000", x.may(0, 0, 10000), NONE);
        due("day 9999", x.may(0, 0, 9999), 1);
    }

    private static void given() {
        SecretBuyers x = new SecretBuyers();
        int[] xs = {0, 10, 20, 30};
        for (int at : xs) x.shop(at, 0, 0, 0, 1439, true);
        x.buyer(10, 0);
        x.buyer(20, 0);
        due("all", x.given(15, 0, 20), 20);
        int[] all = {0, 0, 1, 1};
        for (int s = 0; s < 4; s++) due("all, shop " + s, x.given(15, 0, s), all[s]);
        due("three", x.given(7, 0, 20), 10);
        due("equal ways: the least buyer for the first", x.given(6, 0, 1), 0);
        x.buyer(10, 0);
        due("of two at one place", x.given(15, 0, 0), 0);
        due("of two at one place", x.given(15, 0, 1), 0);
        x.rest(30, 0);
        due("only where they live", x.given(6, 0, 20), 0);
        due("no way to give", x.given(15, 0, 20), NONE);
        due("no way to give", x.given(15, 0, 1), NONE);
        x.rest(30, 60);
        x.days(40);
        x.visit(1, 0, 10, 600, 10, 1, -1);
        due("one that must rest", x.given(2, 20, 1), 2);
        due("rested", x.given(2, 40, 1), 0);
        x.view(0);
        due("as known ahead of the visit", x.given(2, 20, 1), 0);
        SecretBuyers y = new SecretBuyers();
        for (int s = 0; s < 9; s++) y.shop(s, 0, 0, 0, 1439, true);
        for (int b = 0; b < 4; b++) y.buyer(0, 0);
        due("eight by four", y.given(255, 0, 20), 28);
        for (int s = 0; s < 8; s++) due("eight by four, " + s, y.given(255, 0, s), s / 2);
        due("another eight", y.given(510, 0, 8), 3);
        due("nine are too many", y.given(511, 0, 20), NONE);
    }

    private static void givenWrong() {
        SecretBuyers x = town();
        due("set 0", x.given(0, 0, 20), NONE);
        due("set -1", x.given(-1, 0, 20), NONE);
        due("set 8", x.given(8, 0, 20), NONE);
        due("set 9", x.given(9, 0, 20), NONE);
        due("set least", x.given(LEAST, 0, 20), NONE);
        due("set most", x.given(MOST, 0, 20), NONE);
        due("day -1", x.given(1, -1, 20), NONE);
        due("day 10000", x.given(1, 10000, 20), NONE);
        due("day 9999", x.given(1, 9999, 20), 0);
        due("what -1", x.given(1, 0, -1), NONE);
        due("what 21", x.given(1, 0, 21), NONE);
        due("what most", x.given(1, 0, MOST), NONE);
        due("a shop not in it", x.given(1, 0, 1), NONE);
        due("a shop that is not there", x.given(1, 0, 19), NONE);
        SecretBuyers y = new SecretBuyers();
        y.shop(0, 0, 0, 0, 1, true);
        due("no buyer", y.given(1, 0, 20), NONE);
        y.buyer(0, 0);
        due("a buyer", y.given(1, 0, 20), 0);
        y.shop(0, 0, 0, 0, 1, true);
        y.shop(0, 0, 0, 0, 1, true);
        due("two of a buyer", y.given(6, 0, 2), 0);
        due("three of a buyer", y.given(7, 0, 20), NONE);
        for (int i = 3; i < 20; i++) y.shop(0, 0, 0, 0, 1, true);
        due("the last shop", y.given(1 << 19, 0, 19), 0);
        due("beyond it", y.given(1 << 20, 0, 20), NONE);
    }

    private static void drawn() {
        SecretBuyers x = town();
        // g 0 becomes 12345, 12345 / 65536 is 0
        due("g 0", x.drawn(0, 0, 0), 0);
        // then 1406932606, / 65536 is 21468, modulo 7 is 6
        due("the next shop", x.drawn(1, 0, 0), 6);
        x.visit(0, 0, 7, 600, 10, 2, -1);
        due("day 0 of the week is barred", x.drawn(0, 3, 0), 22);
        x.visit(0, 0, 13, 600, 10, 1, -1);
        due("day 6 of the week is barred", x.drawn(0, 3, 0), 21);
        x.visit(0, 0, 12, 600, 10, 1, -1);
        due("not by the latest told", x.drawn(0, 3, 0), 21);
        x.days(1);
        x.visit(0, 0, 14, 600, 10, 1, -1);
        due("as known now", x.drawn(0, 3, 0), 22);
        x.view(100);
        due("as known a day ahead", x.drawn(0, 3, 0), 21);
        due("the last week", x.drawn(0, 1427, 0), 9989);
        due("week 1428", x.drawn(0, 1428, 0), NONE);
        due("week -1", x.drawn(0, -1, 0), NONE);
        due("g -1", x.drawn(0, 0, -1), NONE);
        due("g least", x.drawn(0, 0, LEAST), NONE);
        due("shop -1", x.drawn(-1, 0, 0), NONE);
        due("shop 3", x.drawn(3, 0, 0), NONE);
        long g = (MOST * 1103515245L + 12345L) % 2147483648L;
        due("g most", x.drawn(0, 0, MOST), g / 65536 % 6);
    }

    private static void sway() {
        SecretBuyers x = town();
        due("no visit", x.sway(0, 0), NONE);
        x.visit(0, 0, 10, 600, 10, 3, -1);
        due("no brief", x.sway(0, 0), NONE);
        Checks.tell(x, "bonus 50 when item 1 and item 3 and item 4; bonus 30 when item 1 and (item 2 or item 5); bonus 10 when item 1;", 0, 0);
        due("of equal ones the first", x.sway(0, 0), 2);
        due("from 10 to 30", x.sway(0, 1), 20);
        x.visit(0, 0, 11, 600, 10, 3 | 8 | 16, -1);
        due("the latest: from 50 to 0", x.sway(0, 0), 1);
        due("the latest: from 50 to 0", x.sway(0, 1), 50);
        x.visit(0, 0, 9, 600, 10, 3, -1);
        due("still by the latest", x.sway(0, 1), 50);
        x.visit(0, 0, 12, 600, 10, 1, -1);
        due("from 0 to 10", x.sway(0, 1), 10);
        x.visit(0, 0, 13, 600, 10, 0, -1);
        due("also of one that does not count", x.sway(0, 0), 1);
        x.appeal(4, 1);
        x.appeal(4, 2);
        due("with appeals: from 30 to 0", x.sway(0, 1), 30);
        Checks.tell(x, "bonus 30 when item 0 and item 1 and item 7 and item 9;", 0, 13);
        due("no item alone", x.sway(0, 0), NONE);
        due("no item alone", x.sway(0, 1), NONE);
        for (int shop : new int[] {-1, 3, MOST, LEAST}) {
            due("sway, shop " + shop, x.sway(shop, 0), NONE);
            due("sway, shop " + shop, x.sway(shop, 1), NONE);
        }
        due("what -1", x.sway(0, -1), NONE);
        due("what 2", x.sway(0, 2), NONE);
        Checks.tell(x, "bonus 7 when before < 1 and all = 1;", 1, 0);
        x.visit(2, 1, 20, 600, 10, 1, -1);
        due("to 0 by each item", x.sway(2, 0), 0);
        due("to 0 by each item", x.sway(2, 1), 7);
        Checks.tell(x, "must not item 3; bonus 2 when item 4; bonus 1 when 1;", 1, 0);
        due("by 1 alone, the must line first", x.sway(2, 0), 3);
        due("by 1 alone", x.sway(2, 1), 1);
        Checks.tell(x, "bonus 5 when all = 13; bonus 4 when all = 12;", 1, 0);
        x.visit(2, 1, 21, 600, 10, 4095, -1);
        due("no item beyond 11", x.sway(2, 1), 4);
    }

    private static void sums() {
        SecretBuyers x = scored();
        x.visit(0, 0, 7, 600, 10, 7, -1);
        x.visit(1, 0, 8, 600, 10, 7, -1);
        x.visit(1, 1, 9, 600, 10, 15, -1);
        x.visit(0, 1, 10, 600, 10, 14, -1);
        x.visit(2, 1, 11, 600, 10, 15, -1);
        due("bonuses", x.sum(0, 0, 0, 9999), 21);
        due("bonuses of two days", x.sum(0, 0, 7, 8), 14);
        due("another chain has no brief", x.sum(0, 1, 0, 9999), 0);
        due("a chain without shops", x.sum(0, 3, 0, 9999), 0);
        due("fees", x.sum(1, 0, 0, 9999), 20 + 20 + 20);
        due("fees of one day", x.sum(1, 0, 8, 8), 20 + 20);
        due("fees of those that count", x.sum(1, 1, 0, 9999), 20 + 20 + 60);
        x.terms(14, 1, 60);
        due("14 / 5 is 2", x.sum(1, 1, 0, 9999), 1 + 1 + 120);
        x.terms(4, 1, 60);
        due("4 / 5 is 0", x.sum(1, 1, 0, 9999), 2);
        due("no visit", x.sum(1, 2, 0, 9999), 0);
        due("what -1", x.sum(-1, 0, 0, 9), NONE);
        due("what 2", x.sum(2, 0, 0, 9), NONE);
        due("chain -1", x.sum(0, -1, 0, 9), NONE);
        due("chain 4", x.sum(0, 4, 0, 9), NONE);
        due("buyer -1", x.sum(1, -1, 0, 9), NONE);
        due("buyer 3", x.sum(1, 3, 0, 9), NONE);
        due("from above to", x.sum(0, 0, 9, 8), NONE);
        due("from -1", x.sum(0, 0, -1, 8), NONE);
        due("to 10000", x.sum(1, 0, 0, 10000), NONE);
    }

    private static void counts() {
        SecretBuyers x = scored();
        x.visit(0, 0, 7, 600, 10, 7, -1);
        x.visit(0, 0, 7, 610, 10, 2, -1);
        x.visit(0, 0, 7, 605, 10, 7, -1);
        x.visit(0, 0, 7, 609, 2, 7, -1);
        x.visit(0, 0, 7, 614, 2, 7, -1);
        x.appeal(0, 2);
        Checks.feed(x, "abc");
        x.days(1);
        x.visit(0, 0, 8, 600, 10, 2, -1);
        x.view(100);
        int[] want = {101, 100, 3, 3, 6, 5, 3, 1, 1, 3, 1, 2};
        for (int what = 0; what < want.length; what++) due("count " + what, x.count(what), want[what]);
        for (int what : new int[] {-1, 12, MOST, LEAST}) due("count " + what, x.count(what), NONE);
    }

    private static void asKnown() {
        SecretBuyers x = scored();
        x.visit(0, 0, 7, 600, 10, 7, -1);
        x.days(1);
        x.visit(0, 0, 7, 605, 10, 7, -1);
        x.days(1);
        x.appeal(1, 0);
        x.days(1);
        Checks.tell(x, "add 5 when 1; bonus 3 when 1;", 0, 0);
        int[][] want = {
            // day, state, score, bonus, brief, fewest, sum of bonuses
            {100, 0, 200, 7, 0, 0, 7}, {101, 3, 200, 7, 0, 1, 14}, {102, 0, 200, 7, 0, 0, 7}, {103, 0, 5, 3, 1, 0, 3}};
        for (int[] w : want) {
            x.view(w[0]);
            due("state on " + w[0], x.look(0, 3), w[1]);
            due("score on " + w[0], x.look(0, 0), w[2]);
            due("bonus on " + w[0], x.look(0, 1), w[3]);
            due("brief on " + w[0], x.look(0, 5), w[4]);
            due("fewest on " + w[0], x.fewest(0, 7), w[5]);
            due("sum on " + w[0], x.sum(0, 0, 0, 9999), w[6]);
        }
        x.view(0);
        due("nothing yet", x.count(5) + x.count(6) + x.count(10) + x.count(11), 0);
        due("no mean yet", x.doubt(0, 0, 9999), NONE);
        due("no latest yet", x.sway(0, 0), NONE);
    }
}
