import java.util.ArrayList;
import java.util.List;
import java.util.NoSuchElementException;

/**
 * What is told otherwise and then told as before, with questions between: an answer goes by what was told, never by
 * what was asked. Each is compared with that of an object that was told the same and asked nothing.
 */
public final class ThereAndBackTest {
    private static final int NONE = SecretBuyers.NONE;
    private static final int THROWN = Integer.MIN_VALUE;

    private interface Call {
        int on(SecretBuyers x);
    }

    private record Named(String name, Call call) { }

    private static final List<Named> QUESTIONS = new ArrayList<>();
    private static final List<Named[]> CHANGES = new ArrayList<>();

    public static void main(String[] args) {
        pace();
        spreadAndFee();
        view();
        listQuestions();
        listChanges();
        Checks.sentence("Nothing is promised beyond the answers and state changes described above");
        for (Named[] change : CHANGES) between(change);
        Checks.end("ThereAndBackTest");
    }

    /** Three visits that can be with a pace of 5; with one of 60 the middle one can't be beside the others. */
    private static SecretBuyers three() {
        SecretBuyers x = new SecretBuyers();
        x.shop(0, 0, 0, 0, 1439, false);
        x.shop(10, 0, 0, 0, 1439, false);
        x.buyer(0, 0);
        x.visit(0, 0, 0, 600, 10, 0, NONE);
        x.visit(1, 0, 0, 700, 10, 0, NONE);
        x.visit(0, 0, 0, 1300, 10, 0, NONE);
        return x;
    }

    private static void walk(SecretBuyers x, int pace) {
        Checks.due("terms(" + pace + ", 20, 60)", x.terms(pace, 20, 60), true);
    }

    private static void pace() {
        Checks.sentence("A VISIT counts if it is not FALSE by itself and not SURE.");
        SecretBuyers x = three();
        Checks.due("doubt", x.doubt(1, 0, 9999), 6000);
        Checks.due("mean", x.mean(1, 0, 9999), 0);
        Checks.due("apart", x.apart(0, 1, 0, 9999), 0);
        Checks.due("order's leads", x.order(0, 0, 9999, 1), 3);
        walk(x, 60);
        Checks.due("fewest with a pace of 60", x.fewest(0, 0), 1);
        walk(x, 5);
        Checks.due("doubt with the first pace", x.doubt(1, 0, 9999), 6000);
        walk(x, 60);
        Checks.due("those that count with a pace of 60", x.count(6), 2);
        Checks.due("doubt with a pace of 60", x.doubt(1, 0, 9999), NONE);
        Checks.noSuch("mean with a pace of 60", () -> x.mean(1, 0, 9999));
        walk(x, 5);
        Checks.due("fewest with the first pace", x.fewest(0, 0), 0);
        Checks.due("mean with the first pace", x.mean(1, 0, 9999), 0);
        walk(x, 60);
        Checks.due("the middle one with a pace of 60", x.look(1, 3), 2);
        walk(x, 5);
        Checks.due("apart with the first pace", x.apart(0, 1, 0, 9999), 0);
        walk(x, 60);
        Checks.due("fees with a pace of 60", x.sum(1, 0, 0, 9999), 40);
        walk(x, 5);
        Checks.due("order's leads with the first pace", x.order(0, 0, 9999, 1), 3);
        Checks.due("enough with the first pace", x.enough(0, 1, 0, 9999), NONE);
    }

    private static void spreadAndFee() {
        Checks.sentence("100 * SPREAD (0 to 1000; 60 at first) / how many, cut.");
        SecretBuyers x = three();
        Checks.due("doubt", x.doubt(0, 0, 9999), 3000);
        x.terms(5, 7, 1000);
        Checks.due("doubt with another spread", x.doubt(0, 0, 9999), 50000);
        Checks.due("fees with another fee", x.sum(1, 0, 0, 9999), 41);
        x.terms(5, 20, 60);
        Checks.due("doubt with the first spread", x.doubt(0, 0, 9999), 3000);
        Checks.due("fees with the first fee", x.sum(1, 0, 0, 9999), 80);
    }

    private static void view() {
        Checks.sentence("It is NOW until another one is told, and NOW again if that is told.");
        SecretBuyers x = three();
        x.days(3);
        x.visit(1, 0, 1, 600, 10, 0, NONE);
        Checks.due("doubt", x.doubt(1, 0, 9999), 3000);
        x.view(1);
        Checks.due("those that count on day 1", x.count(6), 3);
        x.view(3);
        Checks.due("doubt with the first view", x.doubt(1, 0, 9999), 3000);
        x.view(2);
        Checks.due("doubt on day 2", x.doubt(1, 0, 9999), 6000);
    }

    /** Far shops and visits close behind one another, so that who counts differs by pace, view and appeals. */
    private static SecretBuyers busy() {
        SecretBuyers x = new SecretBuyers();
        int[][] places = {{0, 0}, {6, 0}, {0, 9}, {20, 0}};
        for (int[] p : places) x.shop(p[0], p[1], p[0] / 20, 300, 1300, true);
        x.buyer(0, 3);
        x.buyer(12, 0);
        x.buyer(40, 9);
        Checks.feed(x, "must all<9; add 90*item 1+40 when 1; add before when receipt; bonus 30 when item 2; bonus 7 when 2<all;");
        x.brief(0, 0);
        x.days(12);
        for (int i = 0; i < 14; i++) x.visit(i % 4 % 3, i % 3, 7 + i % 2, 600 + 37 * i % 150, 12 + i % 5, i * 6 | 1, NONE);
        x.days(2);
        for (int i = 0; i < 10; i++) x.visit(i % 4, i % 3, 7 + i % 3, 560 + 53 * i % 290, 9, i * 70 + 3, i % 2 == 0 ? NONE : 560 + 53 * i % 290);
        x.appeal(3, 0);
        x.appeal(9, 2);
        x.days(1);
        Checks.feed(x, "add minutes*7 when not item 3; bonus 50 when before<80;");
        x.brief(1, 8);
        return x;
    }

    private static void ask(String name, Call call) {
        QUESTIONS.add(new Named(name, x -> {
            try {
                return call.on(x);
            } catch (NoSuchElementException e) {
                return THROWN;
            }
        }));
    }

    private static void listQuestions() {
        for (int i = 0; i < 6; i++) {
            int what = i;
            ask("look(5, " + what + ")", x -> x.look(5, what));
            ask("look(16, " + what + ")", x -> x.look(16, what));
        }
        ask("fair(5)", x -> x.fair(5));
        ask("fewest(1, 8)", x -> x.fewest(1, 8));
        ask("set(0, 7, 0)", x -> x.set(0, 7, 0));
        ask("lean(0)", x -> x.lean(0));
        ask("lean(2)", x -> x.lean(2));
        ask("meetings(0, 1)", x -> x.meetings(0, 1));
        ask("mean(1, 0, 9999)", x -> x.mean(1, 0, 9999));
        ask("mean(2, 7, 8)", x -> x.mean(2, 7, 8));
        ask("doubt(0, 0, 9999)", x -> x.doubt(0, 0, 9999));
        ask("apart(0, 2, 0, 9999)", x -> x.apart(0, 2, 0, 9999));
        ask("order(0, 0, 9999, 0)", x -> x.order(0, 0, 9999, 0));
        ask("order(0, 0, 9999, 1)", x -> x.order(0, 0, 9999, 1));
        ask("enough(0, 1, 0, 9999)", x -> x.enough(0, 1, 0, 9999));
        ask("may(0, 1, 15)", x -> x.may(0, 1, 15));
        ask("given(7, 40, 20)", x -> x.given(7, 40, 20));
        ask("given(7, 40, 1)", x -> x.given(7, 40, 1));
        ask("drawn(2, 3, 77)", x -> x.drawn(2, 3, 77));
        ask("sway(1, 0)", x -> x.sway(1, 0));
        ask("sway(1, 1)", x -> x.sway(1, 1));
        ask("sum(0, 0, 0, 9999)", x -> x.sum(0, 0, 0, 9999));
        ask("sum(1, 2, 0, 9999)", x -> x.sum(1, 2, 0, 9999));
        for (int i = 0; i < 12; i++) {
            int what = i;
            ask("count(" + what + ")", x -> x.count(what));
        }
    }

    private static Named tell(String name, Call call) {
        return new Named(name, call);
    }

    private static Named terms(int pace, int fee, int spread) {
        return tell("terms(" + pace + ", " + fee + ", " + spread + ")", x -> x.terms(pace, fee, spread) ? 1 : 0);
    }

    private static Named rest(int days, int reach) {
        return tell("rest(" + days + ", " + reach + ")", x -> x.rest(days, reach) ? 1 : 0);
    }

    private static Named look(int day) {
        return tell("view(" + day + ")", x -> x.view(day) ? 1 : 0);
    }

    private static void change(Named there, Named back) {
        CHANGES.add(new Named[] {there, back});
    }

    private static void listChanges() {
        Named turn = tell("appeal(16, 2)", x -> x.appeal(16, 2) ? 1 : 0);
        Named come = tell("visit(1, 0, 8, 640, 30, 7, NONE)", x -> x.visit(1, 0, 8, 640, 30, 7, NONE));
        Named brief = tell("brief of all", x -> Checks.tell(x, "add 100*all when 1; bonus 3 when item 1;", 0, 8));
        change(terms(60, 20, 60), terms(5, 20, 60));
        change(terms(1, 20, 60), terms(5, 20, 60));
        change(terms(5, 999, 60), terms(5, 20, 60));
        change(terms(5, 20, 0), terms(5, 20, 60));
        change(rest(0, 60), rest(30, 60));
        change(rest(30, 5), rest(30, 60));
        change(look(13), look(15));
        change(look(0), look(15));
        change(turn, turn);
        change(terms(60, 20, 60), turn);
        change(turn, terms(5, 20, 60));
        change(look(14), terms(30, 20, 60));
        change(terms(30, 20, 60), look(14));
        change(terms(30, 20, 60), terms(0, 20, 60));
        change(come, rest(30, 60));
        change(brief, rest(30, 60));
        change(brief, look(13));
        change(tell("days(3)", x -> x.days(3)), look(15));
    }

    /** Every question ahead and behind, with every other between. */
    private static void between(Named[] change) {
        Checks.due(change[0].name + " is told", change[0].call.on(busy()) >= 0, true);
        boolean tells = false;
        for (Named q : QUESTIONS) {
            SecretBuyers unasked = busy();
            int first = q.call.on(busy());
            tells |= first != q.call.on(told(change[0]));
            change[0].call.on(unasked);
            change[1].call.on(unasked);
            int due = q.call.on(unasked);
            for (Named other : QUESTIONS) {
                SecretBuyers x = busy();
                Checks.due(q.name, q.call.on(x), first);
                change[0].call.on(x);
                other.call.on(x);
                change[1].call.on(x);
                Checks.due(String.join(", ", q.name, change[0].name, other.name, change[1].name, q.name), q.call.on(x), due);
            }
        }
        Checks.due(change[0].name + " changes an answer", tells, true);
    }

    private static SecretBuyers told(Named change) {
        SecretBuyers x = busy();
        change.call.on(x);
        return x;
    }
}
