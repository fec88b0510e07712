import java.util.ArrayList;
import java.util.List;
import java.util.NoSuchElementException;
import java.util.Random;
import java.util.function.Consumer;
import java.util.function.IntSupplier;

/** A refused call changes nothing, asking changes nothing, and no argument makes any call throw what is not promised. */
public final class RefusalsTest {
    private static final int NONE = SecretBuyers.NONE;
    private static final int LEAST = Integer.MIN_VALUE;
    private static final int MOST = Integer.MAX_VALUE;

    public static void main(String[] args) {
        askingChangesNothing();
        refusedChangesNothing(scene(false), false);
        refusedChangesNothing(scene(true), true);
        refusedBriefTakesTheTape();
        extremes();
        Checks.end("RefusalsTest");
    }

    /** A town with all that can be told in it; if it is full, nothing more can be. */
    private static SecretBuyers scene(boolean isFull) {
        SecretBuyers x = new SecretBuyers();
        int shops = isFull ? 20 : 6;
        int buyers = isFull ? 8 : 3;
        for (int i = 0; i < shops; i++) x.shop(3 * i, 2 * i, i % 3, 300, 1300, i % 4 != 3);
        for (int i = 0; i < buyers; i++) x.buyer(5 * i, 9);
        x.days(40);
        Checks.tell(x, "add 100 * all when 1; add before when item 2; bonus 70 when 2 < all; bonus 30 when item 1;", 0, 0);
        Checks.tell(x, "add minutes when 1; must item 0; bonus 9 when receipt;", 1, 20);
        for (int i = 0; i < (isFull ? 14 : 1); i++) Checks.tell(x, "add 10 * hour when 1;", 2, 10 + i);
        int visits = isFull ? 120 : 40;
        for (int i = 0; i < visits; i++) {
            if (i == visits / 2) x.days(3);
            x.visit(i % shops, i * 7 % buyers, 10 + i % 5 * 4, 400 + i * 37 % 500, 5 + i % 50, i * 5 % 64 | (i % 9 == 0 ? 0 : 1), NONE);
        }
        for (int i = 0; i < (isFull ? 80 : 9); i++) x.appeal(i % 40, i % 12);
        x.terms(3, 15, 40);
        x.rest(12, 70);
        Checks.feed(x, isFull ? "must 1; ".repeat(125) : "must 1 ");
        return x;
    }

    private static String answer(IntSupplier call) {
        try {
            return Integer.toString(call.getAsInt());
        } catch (NoSuchElementException e) {
            return "none";
        }
    }

    /** What all asking calls answer. */
    private static String picture(SecretBuyers x) {
        List<String> all = new ArrayList<>();
        for (int what = 0; what <= 11; what++) all.add("" + x.count(what));
        for (int v = 0; v < x.count(4); v++) {
            int visit = v;
            for (int w = 0; w <= 5; w++) {
                int what = w;
                all.add(answer(() -> x.look(visit, what)));
            }
            all.add(answer(() -> x.fair(visit)));
        }
        for (int b = 0; b < x.count(3); b++) {
            int buyer = b;
            all.add(answer(() -> x.lean(buyer)));
            all.add("" + x.meetings(b, 0) + " " + x.sum(1, b, 0, 9999));
            for (int day = 10; day < 31; day++) all.add(x.fewest(b, day) + " " + x.set(b, day, 0) + " " + x.may(b, 0, day));
        }
        for (int s = 0; s < x.count(2); s++) {
            int shop = s;
            all.add(answer(() -> x.mean(shop, 0, 9999)));
            all.add(x.doubt(s, 0, 9999) + " " + x.apart(s, 0, 0, 9999) + " " + x.enough(s, 0, 0, 9999));
            all.add(x.given(1 << s, 50, 20) + " " + x.drawn(s, 9, s) + " " + x.sway(s, 0) + " " + x.sway(s, 1));
        }
        for (int chain = 0; chain < 4; chain++) all.add(x.sum(0, chain, 0, 9999) + " " + x.order(chain, 0, 9999, 0) + " " + x.order(chain, 0, 9999, 1));
        return String.join(",", all);
    }

    private static void askingChangesNothing() {
        SecretBuyers x = scene(false);
        String first = picture(x);
        Checks.due("the same again", picture(x).equals(first), true);
        Checks.due("the same of the same calls", picture(scene(false)).equals(first), true);
        x.view(40);
        String ahead = picture(x);
        Checks.due("less was known ahead", ahead.equals(first), false);
        x.view(43);
        Checks.due("the same by the same view", picture(x).equals(first), true);
        x.view(40);
        Checks.due("the same by the same view ahead", picture(x).equals(ahead), true);
    }

    private static void refusedChangesNothing(SecretBuyers x, boolean isFull) {
        List<Consumer<SecretBuyers>> refused = new ArrayList<>();
        for (int wrong : new int[] {-1, 10001, LEAST, MOST}) {
            refused.add(y -> Checks.due("days", y.days(wrong), NONE));
            refused.add(y -> Checks.due("view", y.view(wrong), false));
            refused.add(y -> Checks.due("shop", y.shop(0, 0, wrong, 0, 1439, true), NONE));
            refused.add(y -> Checks.due("buyer", y.buyer(0, wrong), NONE));
            refused.add(y -> Checks.due("terms", y.terms(9, 9, wrong), false));
            refused.add(y -> Checks.due("terms", y.terms(9, wrong, 9), false));
            refused.add(y -> Checks.due("terms", y.terms(wrong, 9, 9), false));
            refused.add(y -> Checks.due("rest", y.rest(9, wrong), false));
            refused.add(y -> Checks.due("rest", y.rest(wrong, 9), false));
            refused.add(y -> Checks.due("visit", y.visit(wrong, 0, 5, 600, 10, 1, NONE), NONE));
            refused.add(y -> Checks.due("visit", y.visit(0, 0, wrong, 600, 10, 1, NONE), NONE));
            refused.add(y -> Checks.due("visit", y.visit(0, 0, 5, 600, 10, wrong, NONE), NONE));
            refused.add(y -> Checks.due("appeal", y.appeal(wrong, 0), false));
            refused.add(y -> Checks.due("appeal", y.appeal(0, wrong), false));
        }
        refused.add(y -> Checks.due("appeal without a tape", y.appeal(3, 0), false));
        if (isFull) {
            refused.add(y -> Checks.due("a 21st shop", y.shop(0, 0, 0, 0, 1439, true), NONE));
            refused.add(y -> Checks.due("a ninth buyer", y.buyer(0, 0), NONE));
            refused.add(y -> Checks.due("a 121st visit", y.visit(0, 0, 5, 600, 10, 1, NONE), NONE));
            refused.add(y -> Checks.due("a 61st appeal", y.appeal(119, 0), false));
            refused.add(y -> Checks.due("a 1,001st sign", y.feed(0x3b3b3b3b3b3b3b3bL, 0, 0), 1000));
        }
        refused.add(y -> Checks.due("no sign", y.feed(0, -1L, 0x7f01020304050607L), isFull ? 1000 : 7));
        String before = picture(x);
        for (Consumer<SecretBuyers> call : refused) {
            call.accept(x);
            Checks.due("nothing is changed", picture(x).equals(before), true);
        }
    }

    private static void refusedBriefTakesTheTape() {
        int[][] wrong = {{-1, 0}, {4, 0}, {0, -1}, {0, 10000}};
        for (int[] w : wrong) {
            SecretBuyers x = scene(false);
            Checks.tell(x, ";", -1, 0);
            String empty = picture(x);
            Checks.due("brief", Checks.tell(x, "must 0;", w[0], w[1]), -1);
            Checks.due("nothing but the tape", picture(x).equals(empty), true);
            Checks.due("a fault", Checks.tell(x, "must 0", 0, 0), 1 + 16 * 6);
            Checks.due("nothing but the tape", picture(x).equals(empty), true);
        }
        SecretBuyers full = scene(true);
        full.brief(-1, 0);
        String empty = picture(full);
        Checks.due("a 17th brief", Checks.tell(full, "must 0;", 0, 0), -1);
        Checks.due("nothing but the tape", picture(full).equals(empty), true);
    }

    /** Drawn arguments from all ends of int; only NoSuchElementException, where it is promised, may be thrown. */
    private static void extremes() {
        int[] ends = {LEAST, LEAST + 1, -65536, -2, -1, 0, 1, 7, 8, 12, 19, 20, 120, 1439, 1440, 4095, 4096, 9999, 10000,
            65536, 1 << 20, 1 << 30, MOST - 1, MOST};
        Random random = new Random(5);
        for (SecretBuyers x : new SecretBuyers[] {new SecretBuyers(), scene(false), scene(true)}) {
            for (int i = 0; i < 20000; i++) {
                int[] a = new int[7];
                for (int k = 0; k < 7; k++) a[k] = ends[random.nextInt(ends.length)];
                ask(x, random.nextInt(19), a);
            }
        }
    }

    private static void ask(SecretBuyers x, int which, int[] a) {
        switch (which) {
            case 0: x.given(a[0], a[1], a[2]); break;
            case 1: x.drawn(a[0], a[1], a[2]); break;
            case 2: x.sway(a[0], a[1]); break;
            case 3: x.sum(a[0], a[1], a[2], a[3]); break;
            case 4: x.count(a[0]); break;
            case 5: answer(() -> x.look(a[0], a[1])); break;
            case 6: answer(() -> x.fair(a[0])); break;
            case 7: x.fewest(a[0], a[1]); break;
            case 8: x.set(a[0], a[1], a[2]); break;
            case 9: answer(() -> x.lean(a[0])); break;
            case 10: x.meetings(a[0], a[1]); break;
            case 11: answer(() -> x.mean(a[0], a[1], a[2])); break;
            case 12: x.doubt(a[0], a[1], a[2]); break;
            case 13: x.apart(a[0], a[1], a[2], a[3]); break;
            case 14: x.order(a[0], a[1], a[2], a[3]); break;
            case 15: x.enough(a[0], a[1], a[2], a[3]); break;
            case 16: x.may(a[0], a[1], a[2]); break;
            case 17: x.appeal(a[0], a[1]); x.view(a[2]); break;
            default: x.visit(a[0], a[1], a[2], a[3], a[4], a[5], a[6]); x.shop(a[0], a[1], a[2], a[3], a[4], true); break;
        }
    }
}
