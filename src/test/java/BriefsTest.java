/** The language of the briefs: promises 10, 11 and what look() tells of scores and bonuses. */
public final class BriefsTest {
    private static final int STAND = 1;
    private static final int UNTOLD = 2;
    private static final int TWICE = 3;
    private static final int NUMBER = 4;
    private static final int MANY = 5;

    public static void main(String[] args) {
        wordsAndSigns();
        lines();
        names();
        depths();
        limits();
        leastKind();
        values();
        joins();
        scores();
        bonuses();
        beforeScores();
        whichBrief();
        tape();
        Checks.end("BriefsTest");
    }

    private static void good(String text) {
        Checks.due("brief '" + text + "'", Checks.tell(new SecretBuyers(), text, 0, 0), 0);
    }

    /** The fault is due at the sign that the bar stands ahead of. */
    private static void fault(int kind, String text) {
        String plain = text.replace("|", "");
        Checks.due("brief '" + plain + "'", Checks.tell(new SecretBuyers(), plain, 0, 0), kind + 16 * text.indexOf('|'));
    }

    private static void wordsAndSigns() {
        good("");
        good(" \n ");
        good("must 1;");
        good("must\n1\n;\n");
        good("must 1;add 2when 1;");
        good("must item0;");
        good("must item 0and item 11or 1;");
        good("let az = 1; let za = az; must za;");
        fault(STAND, "must 1 |{ 2;");
        fault(STAND, "must 1 |` 2;");
        fault(STAND, "must 1|: 2;");
        good("must 9999;");
        good("must 0000;");
        good("must(1)<(2);");
        good("must 1-2*3+4=5;");
        good("let abcdefgh = 1; must abcdefgh;");
        fault(STAND, "must |abcdefghi;");
        fault(STAND, "let |abcdefghi = 1;");
        fault(STAND, "|musts 1;");
        fault(STAND, "must |12345;");
        fault(STAND, "must |00001;");
        fault(STAND, "must 1 |/ 2;");
        fault(STAND, "must |A;");
        fault(STAND, "must 1|A;");
        fault(STAND, "must 1 |> 2;");
        fault(STAND, "|Must 1;");
        fault(STAND, "must |\"1\";");
        fault(STAND, "must 1|");
        fault(STAND, "must 1  \n|");
        fault(STAND, "must|");
        fault(STAND, "|9");
        fault(STAND, "|;");
        fault(STAND, "must 1; |;");
    }

    private static void lines() {
        good("let a = 1; add a when a; must a; bonus 0 when a;");
        good("bonus 9999 when 1;");
        good("bonus 0007 when 1;");
        fault(STAND, "add 1 |;");
        fault(STAND, "add |when 1;");
        fault(STAND, "add 1 when |;");
        fault(STAND, "add 1 when 1 |when 1;");
        fault(STAND, "must |;");
        fault(STAND, "must 1 |when 1;");
        fault(STAND, "must 1 |2;");
        fault(STAND, "bonus |when 1;");
        fault(STAND, "bonus 1 |+ 1 when 1;");
        fault(STAND, "bonus |(1) when 1;");
        fault(STAND, "bonus |10000 when 1;");
        fault(STAND, "bonus |item 1 when 1;");
        fault(STAND, "bonus 1 |;");
        fault(STAND, "let |1 = 1;");
        fault(STAND, "let |= 1;");
        fault(STAND, "let a |1;");
        fault(STAND, "let a |< 1;");
        fault(STAND, "let a = |;");
        fault(STAND, "let a = 1 |when 1;");
        fault(STAND, "|when 1;");
        fault(STAND, "|a = 1;");
        fault(STAND, "must 1 < 2 |< 3;");
        fault(STAND, "must 1 = 2 |< 3;");
        good("must (1 < 2) < 3;");
        good("must 1 < 2 and 1 = 2 or 3 < 4;");
        fault(STAND, "must 1 and |and 1;");
        fault(STAND, "must 1 + |+ 1;");
        fault(STAND, "must |- 1;");
        fault(STAND, "must 1 * |;");
        fault(STAND, "must ( 1 |;");
        fault(STAND, "must ( |) ;");
        fault(STAND, "must 1 |) ;");
        fault(STAND, "must not |;");
        fault(STAND, "must item |;");
        fault(STAND, "must item |a;");
        fault(STAND, "must item |(1);");
        fault(STAND, "must item|");
        fault(NUMBER, "must item |12;");
        fault(NUMBER, "must item |9999;");
        fault(NUMBER, "must item |0012;");
        fault(STAND, "must item |12345;");
        good("must item 0011;");
    }

    private static void names() {
        for (String word : new String[] {"let", "add", "when", "must", "bonus", "and", "or", "item", "all", "minutes",
            "hour", "receipt", "week", "before", "not"}) {
            fault(STAND, "let |" + word + " = 1;");
        }
        for (String word : new String[] {"a", "items", "al", "minute", "hours", "weeks", "befor", "nota", "lets", "if"}) {
            good("let " + word + " = 1; must " + word + ";");
            fault(UNTOLD, "must |" + word + ";");
        }
        fault(UNTOLD, "let a = |a;");
        fault(UNTOLD, "let a = 1 + |b; let b = 1;");
        fault(UNTOLD, "add 1 when |a; let a = 1;");
        fault(TWICE, "let a = 1; let |a = 2;");
        fault(TWICE, "let a = 1; must a; let |a = a;");
        fault(STAND, "let a = 1; |a;");
        fault(STAND, "let a = 1; must 1 |a;");
        fault(STAND, "let a = 1; bonus |a when 1;");
        fault(STAND, "let a = 1; must item |a;");
    }

    private static void depths() {
        good("must (((1)));");
        good("must not not not 1;");
        good("must not ( not item 1 );");
        good("must (((1))) + (((1))) and not not not 1;");
        fault(MANY, "must ((((|1))));");
        fault(MANY, "must ((((|(1)))));");
        fault(MANY, "must not not not not |item 1;");
        fault(MANY, "must not not not not |item 12;");
        fault(MANY, "must not not not not |not 1;");
        fault(MANY, "must not ( not ( |all ) );");
        fault(MANY, "must ( not ( not |before ) );");
        fault(STAND, "must ((((|))));");
        fault(STAND, "must not not not not |;");
        fault(STAND, "must ((((|12345))));");
        fault(UNTOLD, "must ((((|a))));");
        fault(MANY, "let a = 1; must ((((|a))));");
        good("let a = (((1))); must (((a)));");
        good("add (((1))) when (((1)));");
        good("bonus 1 when (((1)));");
        fault(MANY, "add ((((|1)))) when 1;");
        fault(MANY, "add 1 when ((((|1))));");
        fault(MANY, "let a = ((((|1))));");
        fault(MANY, "bonus 1 when ((((|1))));");
        fault(STAND, "must (((1|;");
    }

    private static void limits() {
        good("must 1;".repeat(16));
        fault(MANY, "must 1;".repeat(16) + "|must 1;");
        fault(MANY, "let a = 1;" + "must 1;".repeat(15) + "|let a = 1;");
        fault(MANY, "must 1;".repeat(16) + "|add");
        fault(MANY, "must 1;".repeat(16) + "|bonus");
        fault(STAND, "must 1;".repeat(16) + "|when");
        fault(STAND, "must 1;".repeat(16) + "|1");
        good("must 1;".repeat(16) + " \n");
        String eight = "let a=1;let b=1;let c=1;let d=1;let e=1;let f=1;let g=1;let h=1;";
        good(eight + "must a+b+c+d+e+f+g+h;");
        fault(MANY, eight + "let |i=1;");
    }

    private static void leastKind() {
        String eight = "let a=1;let b=1;let c=1;let d=1;let e=1;let f=1;let g=1;let h=1;";
        fault(TWICE, eight + "let |c=1;");
        fault(STAND, eight + "let |all=1;");
        fault(STAND, eight + "let |abcdefghi=1;");
        fault(STAND, "must 1 |/ a ;");
        fault(UNTOLD, "must |a / 1 ;");
    }

    /** A shop's visit on day 40 at 615 for 25 minutes, items 0, 1 and 11 yes, a receipt; what a number is there. */
    private static int worth(String expression) {
        SecretBuyers x = oneVisit(0b100000000011, 620);
        Checks.due("brief for " + expression, Checks.tell(x, "add " + expression + " when 1;", 0, 0), 0);
        return x.look(0, 0);
    }

    private static SecretBuyers oneVisit(int form, int receipt) {
        SecretBuyers x = new SecretBuyers();
        x.shop(0, 0, 0, 0, 1439, true);
        x.buyer(0, 0);
        x.days(600);
        x.visit(0, 0, 400, 615, 25, form, receipt);
        return x;
    }

    private static void value(String expression, int want) {
        Checks.due(expression, worth(expression), want);
    }

    private static void values() {
        value("7", 7);
        value("item 0", 1);
        value("item 1", 1);
        value("item 2", 0);
        value("item 11", 1);
        value("all", 3);
        value("minutes", 25);
        value("hour", 10);
        value("receipt", 1);
        value("week", 57 % 53);
        value("before", 0);
        value("not 0", 1);
        value("not 7", 0);
        value("not not 7", 1);
        value("not item 1 = 0", 1);
        value("not (item 1 = 0)", 1);
        SecretBuyers x = oneVisit(1, SecretBuyers.NONE);
        Checks.tell(x, "add 5 + receipt when 1;", 0, 0);
        Checks.due("no receipt", x.look(0, 0), 5);
    }

    private static void joins() {
        value("1 + 2 * 3", 7);
        value("(1 + 2) * 3", 9);
        value("20 - 3 - 4", 13);
        value("20 - (3 - 4)", 21);
        value("2 * 3 * 4", 24);
        value("1 < 2", 1);
        value("2 < 2", 0);
        value("2 = 2", 1);
        value("2 = 3", 0);
        value("1 + 1 < 1 + 2", 1);
        value("0 - 1 < 0", 1);
        value("5 and 7", 1);
        value("5 and 0", 0);
        value("0 or 9", 1);
        value("0 or 0", 0);
        value("1 or 1 and 0", 0);
        value("1 or (1 and 0)", 1);
        value("0 and 1 or 1", 1);
        value("1 < 2 and 2 < 3", 1);
        value("item 1 + item 2 or 0", 1);
        // numbers go round in 32 bits
        value("256 * 256 * 256 * 256 + 7", 7);
        value("256 * 256 * 256 * 128 < 0", 1);
        value("256 * 256 * 256 * 128 - 1 < 0", 0);
        value("(256 * 256 * 256 * 128 - 1) * 2 + 9", 7);
        value("1 or 1 < 1 + 1 * (1 or 1 < 1 + 1 * (1 or 1 < 1 + 1 * (1 or 1 < 1 + 1 * 5)))", 1);
        value("0 or 0 < 2 + 3 * (0 or 0 < 2 + 3 * (0 or 0 < 2 + 3 * (0 - 2)))", 1);
        value("2 + 3 * (4 + 5 * (6 + 7 * (8 - 1)))", 2 + 3 * (4 + 5 * (6 + 7 * 7)));
    }

    private static int scoreBy(String text) {
        SecretBuyers x = oneVisit(3, SecretBuyers.NONE);
        Checks.due("brief '" + text + "'", Checks.tell(x, text, 0, 0), 0);
        return x.look(0, 0);
    }

    private static int bonusBy(String text) {
        SecretBuyers x = oneVisit(3, SecretBuyers.NONE);
        Checks.due("brief '" + text + "'", Checks.tell(x, text, 0, 0), 0);
        return x.look(0, 1);
    }

    private static void scores() {
        Checks.due("no brief", oneVisit(3, -1).look(0, 0), 0);
        Checks.due("no lines", scoreBy(""), 0);
        Checks.due("two adds", scoreBy("add 10 when 1; add 5 when 2; add 1 when 0;"), 15);
        Checks.due("1000", scoreBy("add 1000 when 1;"), 1000);
        Checks.due("above 1000", scoreBy("add 1001 when 1;"), 1000);
        Checks.due("the sum is cut, not its parts", scoreBy("add 1500 when 1; add 0 - 700 when 1;"), 800);
        Checks.due("below 0", scoreBy("add 0 - 5 when 1;"), 0);
        Checks.due("the sum goes round", scoreBy("add 256*256*256*128 - 1 when 1; add 1 when 1;"), 0);
        Checks.due("must 0", scoreBy("add 10 when 1; must 0; add 5 when 1;"), 0);
        Checks.due("must not 0", scoreBy("must 0 - 3; add 5 when 1;"), 5);
        Checks.due("one must of two", scoreBy("must 1; add 5 when 1; must item 2;"), 0);
        Checks.due("a name", scoreBy("let a = 1 + 2; let b = a * a; add a * 3 + b when a;"), 18);
        Checks.due("a name of a fact", scoreBy("let a = all; add 100 * a when a = 2;"), 200);
        String doubled = "let a=all+all;let b=a+a;let c=b+b;let d=c+c;let e=d+d;let f=e+e;let g=f+f;let h=g+g;";
        Checks.due("names of names", scoreBy(doubled + "add h when 1;"), 512);
    }

    private static void bonuses() {
        Checks.due("no brief", oneVisit(3, -1).look(0, 1), 0);
        Checks.due("none", bonusBy("bonus 5 when 0;"), 0);
        Checks.due("the first", bonusBy("bonus 4 when 0; bonus 5 when 3; bonus 6 when 1;"), 5);
        Checks.due("the first, of 0", bonusBy("bonus 0 when 1; bonus 6 when 1;"), 0);
        Checks.due("must 0 behind", bonusBy("bonus 5 when 1; must 0;"), 0);
        Checks.due("must 0 ahead", bonusBy("must 0; bonus 5 when 1;"), 0);
        Checks.due("must 1", bonusBy("must 1; bonus 9999 when item 1;"), 9999);
    }

    private static void beforeScores() {
        SecretBuyers x = new SecretBuyers();
        x.shop(0, 0, 0, 0, 1439, true);
        x.shop(0, 0, 0, 0, 1439, true);
        x.buyer(0, 0);
        x.days(30);
        Checks.tell(x, "add before + 1 when 1; must item 0 or before < 2;", 0, 0);
        x.visit(0, 0, 20, 600, 10, 1, -1);
        x.visit(0, 0, 20, 500, 10, 1, -1);
        x.visit(1, 0, 1, 500, 10, 1, -1);
        x.visit(0, 0, 19, 900, 10, 1, -1);
        x.visit(0, 0, 20, 600, 10, 0, -1);
        x.visit(0, 0, 21, 1, 10, 1, -1);
        int[] want = {3, 2, 1, 1, 0, 1};
        for (int i = 0; i < want.length; i++) Checks.due("before of " + i, x.look(i, 0), want[i]);
        x.days(1);
        x.visit(0, 0, 0, 5, 5, 1, -1);
        Checks.due("behind one more", x.look(3, 0), 2);
        x.view(30);
        Checks.due("as known ahead of it", x.look(3, 0), 1);
    }

    private static void whichBrief() {
        SecretBuyers x = new SecretBuyers();
        x.shop(0, 0, 0, 0, 1439, true);
        x.shop(0, 0, 1, 0, 1439, true);
        x.buyer(0, 0);
        x.days(50);
        x.visit(0, 0, 9, 600, 10, 1, -1);
        x.visit(0, 0, 10, 600, 10, 1, -1);
        x.visit(0, 0, 20, 600, 10, 1, -1);
        x.visit(1, 0, 20, 700, 10, 1, -1);
        Checks.due("none", x.look(1, 5), SecretBuyers.NONE);
        Checks.tell(x, "add 20 when 1;", 0, 20);
        Checks.tell(x, "add 10 when 1;", 0, 10);
        briefsAre(x, new int[] {-1, 1, 0, -1});
        x.days(1);
        Checks.tell(x, "add 11 when 1;", 0, 10);
        briefsAre(x, new int[] {-1, 2, 0, -1});
        Checks.due("by the later told", x.look(1, 0), 11);
        Checks.tell(x, "add 1 when 1;", 1, 0);
        Checks.tell(x, "add 2 when 1;", 0, 0);
        Checks.tell(x, "add 3 when 1;", 0, 9999);
        Checks.tell(x, "add 3 when ;", 0, 0);
        briefsAre(x, new int[] {4, 2, 0, 3});
        x.view(50);
        briefsAre(x, new int[] {-1, 1, 0, -1});
        Checks.due("by the earlier told", x.look(1, 0), 10);
    }

    private static void briefsAre(SecretBuyers x, int[] want) {
        for (int i = 0; i < want.length; i++) Checks.due("brief of visit " + i, x.look(i, 5), want[i]);
    }

    private static void tape() {
        SecretBuyers x = new SecretBuyers();
        Checks.due("nothing", x.feed(0, 0, 0), 0);
        Checks.due("highest first", x.feed(0x6d75737420313bL, 0, 0), 7);
        Checks.due("as it was fed", x.brief(0, 0), 0);
        Checks.due("taken", x.count(9), 0);
        Checks.due("others are left out", x.feed(0x090a0b1f207e7f80L, 0xff00000000000000L, 0x0d000000000000e9L), 3);
        Checks.due("a fault takes the tape too", x.brief(0, 0), 1 + 16 * 2);
        Checks.due("taken", x.count(9), 0);
        long full = 0x2020202020202020L;
        for (int i = 1; i <= 41; i++) Checks.due("feed " + i, x.feed(full, full, full), i * 24);
        Checks.due("beyond 1,000", x.feed(full, full, full), 1000);
        Checks.due("full", x.feed(full, full, full), 1000);
        Checks.due("blanks alone", x.brief(0, 0), 0);
        Checks.feed(x, "must 1; " + " ".repeat(985) + "must 2;");
        Checks.due("just 1,000", x.count(9), 1000);
        Checks.due("just 1,000", x.brief(0, 0), 0);
        Checks.feed(x, "must 1; " + " ".repeat(986) + "must 2;");
        Checks.due("the last sign is left out", x.brief(0, 0), 1 + 16 * 1000);
        Checks.feed(x, "must " + "1 + ".repeat(248) + "  abcdef");
        Checks.due("a full tape that ends in a word", x.brief(0, 0), 2 + 16 * 999);
        Checks.feed(x, "must " + "1 + ".repeat(248) + "  12345");
        Checks.due("a full tape that ends in a number", x.brief(0, 0), 1 + 16 * 1000);
        Checks.feed(x, "1");
        Checks.due("nothing is left of it", x.brief(0, 0), 1);
        Checks.feed(x, "must " + "1+".repeat(496) + "1;");
        Checks.due("a long sum", x.brief(0, 0), 0);
        Checks.feed(x, "add 1");
        Checks.due("another feed goes on", Checks.feed(x, "2 when 1;"), 14);
        Checks.due("one number", x.brief(0, 0), 0);
    }
}
