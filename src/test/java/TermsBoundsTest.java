/** The bounds that the opening of the document's Terms names, each sentence by a test of its own. */
public final class TermsBoundsTest {
    private static final int NONE = SecretBuyers.NONE;

    public static void main(String[] args) {
        daysRange();
        nowAtFirst();
        weeks();
        minutesRange();
        shopsRange();
        shopsFull();
        openSpan();
        tapes();
        buyersRange();
        ways();
        paces();
        visitsFull();
        visitsToNow();
        visitsLength();
        visitsForm();
        visitsReceipt();
        visitsTold();
        appealsFull();
        appealsTurn();
        appealsInTime();
        viewSees();
        viewGoesAlong();
        viewLeavesTheRest();
        Checks.end("TermsBoundsTest");
    }

    private static void due(String what, long got, long want) {
        Checks.due(what, got, want);
    }

    private static void due(String what, boolean got, boolean want) {
        Checks.due(what, got, want);
    }

    private static void daysRange() {
        Checks.sentence("DAYS are 0 to 9999;");
        SecretBuyers x = Scenes.plain(1, 1, 9999);
        for (int day : new int[] {0, 9999}) {
            due("visit on " + day, Scenes.see(x, 0, 0, day, 10) >= 0, true);
            due("fewest on " + day, x.fewest(0, day), 0);
            due("may on " + day, x.may(0, 0, day), 0);
            due("given on " + day, x.given(1, day, 20), NONE);
            due("mean of " + day, x.mean(0, day, day), 0);
            due("doubt of " + day, x.doubt(0, day, day), 6000);
            due("order of " + day, x.order(0, day, day, 0), 1);
            due("sum of " + day, x.sum(1, 0, day, day), 20);
            due("brief from " + day, x.brief(0, day), 0);
        }
        x.rest(0, 60);
        for (int day : new int[] {0, 9999}) due("given on " + day, x.given(1, day, 20), 0);
        for (int day : Scenes.beside(0, 9999)) {
            due("visit on " + day, Scenes.see(x, 0, 0, day, 10), NONE);
            due("fewest on " + day, x.fewest(0, day), NONE);
            due("set of " + day, x.set(0, day, 0), NONE);
            due("may on " + day, x.may(0, 0, day), NONE);
            due("given on " + day, x.given(1, day, 20), NONE);
            due("brief from " + day, x.brief(0, day), -1);
            due("view " + day, x.view(day), false);
        }
    }

    private static void nowAtFirst() {
        Checks.sentence("NOW is one, 0 at first.");
        SecretBuyers x = Scenes.plain(1, 1, 0);
        due("now", x.count(0), 0);
        due("a visit on day 1", Scenes.see(x, 0, 0, 1, 10), NONE);
        due("a visit on day 0", Scenes.see(x, 0, 0, 0, 10), 0);
    }

    private static void weeks() {
        Checks.sentence("The WEEK of a DAY is DAY / 7.");
        due("days 0 and 6", meetingsOn(0, 6), 1);
        due("days 6 and 7", meetingsOn(6, 7), 0);
        due("days 7 and 13", meetingsOn(7, 13), 1);
        due("days 13 and 14", meetingsOn(13, 14), 0);
        due("days 9989 and 9995", meetingsOn(9989, 9995), 1);
        due("days 9995 and 9996", meetingsOn(9995, 9996), 0);
        due("days 9996 and 9999", meetingsOn(9996, 9999), 1);
    }

    private static int meetingsOn(int one, int other) {
        SecretBuyers x = Scenes.plain(1, 2, 9999);
        Scenes.see(x, 0, 0, one, 10);
        Scenes.see(x, 0, 1, other, 10);
        return x.meetings(0, 1);
    }

    private static void minutesRange() {
        Checks.sentence("MINUTES of a DAY are 0 to 1439.");
        SecretBuyers x = Scenes.plain(1, 1, 0);
        due("open from 0 to 1439", x.shop(0, 0, 0, 0, 1439, true), 1);
        due("a visit at 0", x.visit(0, 0, 0, 0, 1, 1, 0), 0);
        due("a visit at 1439", x.visit(0, 0, 0, 1439, 1, 1, 1439), 1);
        for (int minute : Scenes.beside(0, 1439)) {
            due("open from " + minute, x.shop(0, 0, 0, minute, 1439, true), NONE);
            due("open to " + minute, x.shop(0, 0, 0, 0, minute, true), NONE);
            due("a visit at " + minute, x.visit(0, 0, 0, minute, 1, 1, NONE), NONE);
            if (minute != NONE) due("a receipt of " + minute, x.visit(0, 0, 0, 0, 1, 1, minute), NONE);
        }
        due("nothing was told by these", x.count(2) * 10 + x.count(4), 22);
    }

    private static void shopsRange() {
        Checks.sentence("x, y (0 to 99 each), a CHAIN (0 to 3)");
        SecretBuyers x = new SecretBuyers();
        due("the corner 0, 0", x.shop(0, 0, 0, 0, 1439, true), 0);
        due("the corner 99, 99", x.shop(99, 99, 3, 0, 1439, true), 1);
        for (int wrong : Scenes.beside(0, 99)) {
            due("x " + wrong, x.shop(wrong, 0, 0, 0, 1439, true), NONE);
            due("y " + wrong, x.shop(0, wrong, 0, 0, 1439, true), NONE);
        }
        for (int wrong : Scenes.beside(0, 3)) {
            due("shop of chain " + wrong, x.shop(0, 0, wrong, 0, 1439, true), NONE);
            due("brief of chain " + wrong, x.brief(wrong, 0), -1);
            due("order of chain " + wrong, x.order(wrong, 0, 9999, 0), NONE);
            due("sum of chain " + wrong, x.sum(0, wrong, 0, 9999), NONE);
        }
        for (int chain = 0; chain <= 3; chain++) {
            due("brief of chain " + chain, x.brief(chain, 0), 0);
            due("sum of chain " + chain, x.sum(0, chain, 0, 9999), 0);
        }
        due("two are there", x.count(2), 2);
    }

    private static void shopsFull() {
        Checks.sentence("SHOPS, 20 at most:");
        SecretBuyers x = new SecretBuyers();
        for (int i = 0; i < 20; i++) due("shop " + i, x.shop(i, i, i % 4, 0, 1439, true), i);
        due("a 21st", x.shop(0, 0, 0, 0, 1439, true), NONE);
        due("20 are there", x.count(2), 20);
        x.buyer(0, 0);
        due("the 20th can be gone to", Scenes.see(x, 19, 0, 0, 10), 0);
        due("the 21st can't", Scenes.see(x, 20, 0, 0, 10), NONE);
    }

    private static void openSpan() {
        Checks.sentence("(from not above to)");
        SecretBuyers x = new SecretBuyers();
        due("from 700 to 700", x.shop(0, 0, 0, 700, 700, true), 0);
        due("from 701 to 700", x.shop(0, 0, 0, 701, 700, true), NONE);
        due("from 1439 to 0", x.shop(0, 0, 0, 1439, 0, true), NONE);
        x.buyer(0, 0);
        x.visit(0, 0, 0, 700, 1, 1, NONE);
        due("its one minute", x.look(0, 3), 0);
    }

    private static void tapes() {
        Checks.sentence("whether the law lets record there");
        SecretBuyers x = new SecretBuyers();
        x.shop(0, 0, 0, 0, 1439, true);
        x.shop(0, 0, 0, 0, 1439, false);
        x.buyer(0, 0);
        Scenes.seeAt(x, 0, 0, 0, 100);
        Scenes.seeAt(x, 1, 0, 0, 200);
        due("where it does", x.appeal(0, 0), true);
        due("where it does not", x.appeal(1, 0), false);
        due("one is there", x.count(7), 1);
    }

    private static void buyersRange() {
        Checks.sentence("BUYERS, 8 at most: at home at x, y.");
        SecretBuyers x = Scenes.plain(1, 0, 0);
        due("the corner 0, 0", x.buyer(0, 0), 0);
        due("the corner 99, 99", x.buyer(99, 99), 1);
        for (int wrong : Scenes.beside(0, 99)) {
            due("x " + wrong, x.buyer(wrong, 0), NONE);
            due("y " + wrong, x.buyer(0, wrong), NONE);
        }
        for (int i = 2; i < 8; i++) due("buyer " + i, x.buyer(0, i), i);
        due("a ninth", x.buyer(0, 0), NONE);
        due("8 are there", x.count(3), 8);
        due("the eighth can go", Scenes.see(x, 0, 7, 0, 10), 0);
        due("the ninth can't", Scenes.see(x, 0, 8, 0, 10), NONE);
    }

    private static void ways() {
        Checks.sentence("The WAY between two places is what x and y differ by, together;");
        int[][] cases = {{5, 5, 5, 5, 0}, {5, 5, 6, 5, 1}, {5, 5, 5, 6, 1}, {6, 5, 5, 5, 1}, {5, 6, 5, 5, 1},
            {10, 40, 30, 10, 50}, {30, 10, 10, 40, 50}, {10, 10, 30, 40, 50}, {0, 0, 99, 99, 198}, {99, 0, 0, 99, 198}};
        for (int[] c : cases) {
            SecretBuyers x = new SecretBuyers();
            x.rest(0, 198);
            x.shop(c[0], c[1], 0, 0, 1439, true);
            x.buyer(c[2], c[3]);
            due(c[0] + ", " + c[1] + " to " + c[2] + ", " + c[3], x.given(1, 0, 20), c[4]);
            x.rest(0, Math.max(0, c[4] - 1));
            due("one less is too short a reach", x.may(0, 0, 0), c[4] == 0 ? 1 : 0);
        }
    }

    private static void paces() {
        Checks.sentence("a BUYER goes one of it in PACE MINUTES (1 to 60, 5 at first).");
        due("5 at first: in time", together(0, 3, 600 + 10 + 15), 0);
        due("5 at first: a minute short", together(0, 3, 600 + 10 + 14), 1);
        due("1: in time", together(1, 3, 600 + 10 + 3), 0);
        due("1: a minute short", together(1, 3, 600 + 10 + 2), 1);
        due("60: in time", together(60, 3, 600 + 10 + 180), 0);
        due("60: a minute short", together(60, 3, 600 + 10 + 179), 1);
        due("60 for 99: never in a day", together(60, 99, 1439 - 9), 1);
        due("no way takes no time", together(60, 0, 610), 0);
        SecretBuyers x = new SecretBuyers();
        due("1", x.terms(1, 20, 60), true);
        due("60", x.terms(60, 20, 60), true);
        for (int wrong : Scenes.beside(1, 60)) due("pace " + wrong, x.terms(wrong, 20, 60), false);
    }

    /** How many must be false of two visits, at 600 and at a later minute, in shops so far from each other. */
    private static int together(int pace, int way, int later) {
        SecretBuyers x = new SecretBuyers();
        x.shop(0, 0, 0, 0, 1439, true);
        x.shop(0, way, 0, 0, 1439, true);
        x.buyer(0, 0);
        if (pace != 0) x.terms(pace, 20, 60);
        Scenes.seeAt(x, 0, 0, 0, 600);
        Scenes.seeAt(x, 1, 0, 0, later);
        return x.fewest(0, 0);
    }

    private static void visitsFull() {
        Checks.sentence("VISITS, 120 at most:");
        SecretBuyers x = Scenes.plain(1, 1, 200);
        for (int i = 0; i < 120; i++) due("visit " + i, Scenes.see(x, 0, 0, i, 10), i);
        due("a 121st", Scenes.see(x, 0, 0, 150, 10), NONE);
        due("120 are there", x.count(4), 120);
        due("the 120th is", x.look(119, 2), 1);
        Checks.noSuch("the 121st is not", () -> x.look(120, 2));
        due("an appeal of the 120th", x.appeal(119, 0), true);
        due("an appeal of the 121st", x.appeal(120, 0), false);
        x.view(199);
        due("not in the view they are there, too", Scenes.see(x, 0, 0, 150, 10), NONE);
    }

    private static void visitsToNow() {
        Checks.sentence("on a DAY (to NOW)");
        SecretBuyers x = Scenes.plain(1, 1, 50);
        due("now", Scenes.see(x, 0, 0, 50, 10), 0);
        due("a day behind now", Scenes.see(x, 0, 0, 51, 10), NONE);
        x.days(1);
        due("which is now", Scenes.see(x, 0, 0, 51, 10), 1);
        x.view(10);
        due("the view does not matter", Scenes.see(x, 0, 0, 11, 10), 2);
    }

    private static void visitsLength() {
        Checks.sentence("for so many MINUTES (1 to 300)");
        SecretBuyers x = Scenes.timed(1, 1, 0);
        due("1", Scenes.see(x, 0, 0, 0, 1), 0);
        due("300", Scenes.see(x, 0, 0, 0, 300), 1);
        due("of 1", x.look(0, 0), 1);
        due("of 300", x.look(1, 0), 300);
        for (int wrong : Scenes.beside(1, 300)) due("minutes " + wrong, Scenes.see(x, 0, 0, 0, wrong), NONE);
        due("beyond the day's end it is told", x.visit(0, 0, 0, 1439, 300, 1, NONE), 2);
    }

    private static void visitsForm() {
        Checks.sentence("the form (12 items, 0 to 11, yes or no, as bits)");
        SecretBuyers x = Scenes.plain(1, 1, 0);
        due("none yes", x.visit(0, 0, 0, 100, 10, 0, NONE), 0);
        due("all yes", x.visit(0, 0, 0, 200, 10, 4095, NONE), 1);
        due("the last alone", x.visit(0, 0, 0, 300, 10, 2048, NONE), 2);
        due("none yes", x.look(0, 2), 0);
        due("all yes", x.look(1, 2), 4095);
        due("the last alone", x.look(2, 2), 2048);
        for (int wrong : Scenes.beside(0, 4095)) due("form " + wrong, x.visit(0, 0, 0, 400, 10, wrong, NONE), NONE);
        for (int item = 0; item <= 11; item++) due("item " + item, x.appeal(0, item), true);
        for (int wrong : Scenes.beside(0, 11)) due("item " + wrong, x.appeal(0, wrong), false);
        due("each turned over", x.look(0, 2), 4095);
    }

    private static void visitsReceipt() {
        Checks.sentence("the MINUTE on the receipt (or none)");
        SecretBuyers x = Scenes.plain(1, 1, 0);
        Checks.tell(x, "add 1 + receipt when 1;", 0, 0);
        due("none", x.visit(0, 0, 0, 0, 1, 1, NONE), 0);
        due("minute 0", x.visit(0, 0, 0, 0, 1, 1, 0), 1);
        due("minute 1439", x.visit(0, 0, 0, 1439, 1, 1, 1439), 2);
        due("none is none", x.look(0, 0), 1);
        due("minute 0 is one", x.look(1, 0), 2);
        due("minute 1439 is one", x.look(2, 0), 2);
        for (int wrong : new int[] {-2, 1440, Integer.MIN_VALUE, Integer.MAX_VALUE}) {
            due("receipt " + wrong, x.visit(0, 0, 0, 0, 1, 1, wrong), NONE);
        }
    }

    private static void visitsTold() {
        Checks.sentence("told on a DAY (NOW).");
        SecretBuyers x = Scenes.plain(1, 1, 50);
        Scenes.see(x, 0, 0, 3, 10);
        x.view(49);
        due("on its own day nobody knew", x.count(5), 0);
        x.view(50);
        due("now it is known", x.count(5), 1);
    }

    private static void appealsFull() {
        Checks.sentence("APPEALS, 60 at most:");
        SecretBuyers x = Scenes.plain(1, 1, 0);
        Scenes.see(x, 0, 0, 0, 10);
        for (int i = 0; i < 60; i++) due("appeal " + i, x.appeal(0, i / 12), true);
        due("60 are there", x.count(7), 60);
        due("each of five items was turned twelve times", x.look(0, 2), 1);
        due("a 61st", x.appeal(0, 5), false);
        due("60 are there still", x.count(7), 60);
        due("it turned nothing", x.look(0, 2), 1);
    }

    private static void appealsTurn() {
        Checks.sentence("an item of its form is turned over");
        SecretBuyers x = Scenes.plain(1, 1, 0);
        x.visit(0, 0, 0, 600, 10, 5, NONE);
        x.visit(0, 0, 0, 700, 10, 5, NONE);
        x.appeal(0, 2);
        due("from yes to no", x.look(0, 2), 1);
        x.appeal(0, 11);
        due("from no to yes", x.look(0, 2), 1 | 1 << 11);
        x.appeal(0, 11);
        due("and back", x.look(0, 2), 1);
        due("another visit's stays", x.look(1, 2), 5);
    }

    private static void appealsInTime() {
        Checks.sentence("told on a DAY (NOW) that is at most 14 behind the DAY when the VISIT was told.");
        SecretBuyers x = Scenes.plain(1, 1, 100);
        Scenes.see(x, 0, 0, 2, 10);
        due("on the day of telling", x.appeal(0, 1), true);
        x.days(13);
        due("13 behind", x.appeal(0, 1), true);
        x.days(1);
        due("14 behind", x.appeal(0, 1), true);
        x.days(1);
        due("15 behind", x.appeal(0, 1), false);
        x.view(100);
        due("the view turns no day back", x.appeal(0, 1), false);
        due("a visit of the same day that is told later", Scenes.see(x, 0, 0, 2, 10), 1);
        due("is in time", x.appeal(1, 1), true);
    }

    private static void viewSees() {
        Checks.sentence("THE VIEW is a DAY: VISITS, APPEALS and BRIEFS told on it or ahead.");
        SecretBuyers x = Scenes.plain(1, 1, 10);
        Scenes.see(x, 0, 0, 0, 10);
        x.days(1);
        x.appeal(0, 3);
        x.days(1);
        Checks.tell(x, "add 8 when 1;", 0, 0);
        x.view(9);
        Checks.noSuch("the visit, a day ahead of its telling", () -> x.look(0, 2));
        due("visits in the view, a day ahead", x.count(5), 0);
        x.view(10);
        due("the visit, on the day", x.look(0, 2), 1);
        x.view(11);
        due("the appeal, on the day", x.look(0, 2), 9);
        due("the brief, a day ahead", x.look(0, 5), NONE);
        due("its score, a day ahead", x.look(0, 0), 0);
        x.view(12);
        due("the brief, on the day", x.look(0, 5), 0);
        due("its score, on the day", x.look(0, 0), 8);
        x.view(10);
        due("the appeal, a day ahead", x.look(0, 2), 1);
    }

    private static void viewGoesAlong() {
        Checks.sentence("It is NOW until another one is told, and NOW again if that is told.");
        SecretBuyers x = Scenes.plain(1, 1, 10);
        due("now at first", x.count(1), 10);
        x.days(5);
        due("it goes along", x.count(1), 15);
        due("another one", x.view(14), true);
        x.days(5);
        due("it stays", x.count(1), 14);
        due("15 is another one, too", x.view(15), true);
        x.days(5);
        due("it stays", x.count(1), 15);
        due("now", x.view(25), true);
        x.days(5);
        due("it goes along again", x.count(1), 30);
        due("day 0", x.view(0), true);
        due("day 0", x.count(1), 0);
    }

    private static void viewLeavesTheRest() {
        Checks.sentence("All else is as it is.");
        SecretBuyers x = Scenes.plain(1, 1, 10);
        Scenes.see(x, 0, 0, 5, 10);
        x.days(5);
        x.shop(1, 1, 1, 0, 1439, true);
        x.buyer(2, 2);
        x.terms(7, 8, 9);
        x.rest(0, 3);
        Checks.feed(x, "ab");
        x.view(10);
        due("shops", x.count(2), 2);
        due("buyers", x.count(3), 2);
        due("visits", x.count(4), 1);
        due("signs on the tape", x.count(9), 2);
        due("now", x.count(0), 15);
        due("spread", x.doubt(0, 0, 9999), 900);
        due("fee", x.sum(1, 0, 0, 9999), 8);
        due("rest", x.may(0, 0, 5), 1);
        due("reach", x.may(1, 0, 5), 0);
    }
}
