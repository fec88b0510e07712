/** Small settings that the tests of the bounds start from. */
final class Scenes {
    static final int NONE = SecretBuyers.NONE;
    /** What is wrong wherever a number from 0 on is asked. */
    static final int[] FAR = {-1, Integer.MIN_VALUE, Integer.MAX_VALUE};

    private Scenes() { }

    /** Shops at 0, 0 of chain 0 that record and are open all day, buyers at home there, and a day. */
    static SecretBuyers plain(int shops, int buyers, int now) {
        SecretBuyers x = new SecretBuyers();
        for (int i = 0; i < shops; i++) x.shop(0, 0, 0, 0, 1439, true);
        for (int i = 0; i < buyers; i++) x.buyer(0, 0);
        pass(x, now);
        return x;
    }

    static void pass(SecretBuyers x, int days) {
        for (int left = days; left > 0; left -= Math.min(left, 1000)) x.days(Math.min(left, 1000));
    }

    /** As plain(), with a score of as many as the visit has minutes. */
    static SecretBuyers timed(int shops, int buyers, int now) {
        SecretBuyers x = plain(shops, buyers, now);
        Checks.due("brief", Checks.tell(x, "add minutes when 1;", 0, 0), 0);
        return x;
    }

    /** A visit from 600 on that can be alone, for so many minutes. */
    static int see(SecretBuyers x, int shop, int buyer, int day, int minutes) {
        return x.visit(shop, buyer, day, 600, minutes, 1, NONE);
    }

    /** A visit of ten minutes that can be alone. */
    static int seeAt(SecretBuyers x, int shop, int buyer, int day, int minute) {
        return x.visit(shop, buyer, day, minute, 10, 1, NONE);
    }

    /** A numeral and what is just wrong beside the ends of its range, and far from them. */
    static int[] beside(int least, int most) {
        return new int[] {least - 1, most + 1, Integer.MIN_VALUE, Integer.MAX_VALUE};
    }
}
