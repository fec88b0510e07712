import java.util.List;

/** The bounds that part 2 of the document names (the tape, tokens, briefs, faults, facts), each by a test of its own. */
public final class BriefBoundsTest {
    private static final int NONE = SecretBuyers.NONE;
    private static final int STAND = 1;
    private static final int UNTOLD = 2;
    private static final int TWICE = 3;
    private static final int NUMBER = 4;
    private static final int MANY = 5;
    private static final String EIGHT = "let a=1;let b=1;let c=1;let d=1;let e=1;let f=1;let g=1;let h=1;";
    private static final List<String> WORDS = List.of("let", "add", "when", "must", "bonus", "and", "or", "item", "all",
        "minutes", "hour", "receipt", "week", "before", "not");

    public static void main(String[] args) {
        tapeFull();
        tapeSigns();
        tapeTaken();
        longTokens();
        blanks();
        words();
        numbers();
        signs();
        otherTokens();
        emptyBrief();
        lines();
        tests();
        sumsAndTerms();
        items();
        depth();
        leftOut();
        fromTheLeft();
        otherWords();
        eightNames();
        onceTold();
        sixteenLines();
        bonusRange();
        theEnd();
        firstAndLeast();
        kindOne();
        kindTwo();
        kindThree();
        kindFour();
        kindFive();
        briefsFull();
        briefDays();
        briefSpans();
        latestOfADay();
        factsOfItems();
        factsOfTime();
        factsOfWeeks();
        factsOfBefore();
        goRound();
        oneOrZero();
        namesWhereTheyStand();
        scoreMust();
        scoreWithin();
        scoreWithout();
        bonusFirst();
        bonusMust();
        Checks.end("BriefBoundsTest");
    }

    private static void due(String what, long got, long want) {
        Checks.due(what, got, want);
    }

    private static void good(String text) {
        SecretBuyers x = new SecretBuyers();
        due("brief '" + text + "'", Checks.tell(x, text, 0, 0), 0);
        due("it is kept", x.count(8), 1);
    }

    /** The fault is due at the sign that the bar stands ahead of. */
    private static void fault(int kind, String text) {
        String plain = text.replace("|", "");
        SecretBuyers x = new SecretBuyers();
        due("brief '" + plain + "'", Checks.tell(x, plain, 0, 0), kind + 16 * text.indexOf('|'));
        due("it is not kept", x.count(8), 0);
    }

    /** What an expression is for a visit on day 0 from 600 on for ten minutes, item 0 yes; by one more, so that -1 shows. */
    private static void value(String expression, int want) {
        SecretBuyers x = Scenes.plain(1, 1, 0);
        Scenes.see(x, 0, 0, 0, 10);
        due("brief of " + expression, Checks.tell(x, "add 1 + (" + expression + ") when 1;", 0, 0), 0);
        due(expression, x.look(0, 0) - 1, want);
    }

    private static void tapeFull() {
        Checks.sentence("The TAPE has at most 1,000 signs");
        SecretBuyers x = new SecretBuyers();
        Checks.feed(x, " ".repeat(984));
        due("984 and 15", Checks.feed(x, " ".repeat(15)), 999);
        due("one more", Checks.feed(x, ";"), 1000);
        due("one too many", Checks.feed(x, ";"), 1000);
        due("the one that is left out is the last", x.brief(0, 0), STAND + 16 * 999);
        Checks.feed(x, " ".repeat(998));
        due("the first of three fits", Checks.feed(x, " ;;"), 1000);
        due("the first two of three fit", x.brief(0, 0), STAND + 16 * 999);
        due("a text of 1,000 is read", Checks.tell(x, "must " + "1+".repeat(497) + "1", 0, 0), STAND + 16 * 1000);
        due("with its end", Checks.tell(x, " must  " + "1+".repeat(495) + "10;", 0, 0), 0);
    }

    private static void tapeSigns() {
        Checks.sentence("10 and 32 .. 126;");
        for (int sign = 0; sign < 256; sign++) {
            SecretBuyers x = new SecretBuyers();
            boolean stays = sign == 10 || sign >= 32 && sign <= 126;
            due("sign " + sign, x.feed((long) sign << 56, 0, 0), stays ? 1 : 0);
            due("on the tape", x.count(9), stays ? 1 : 0);
        }
    }

    private static void tapeTaken() {
        Checks.sentence("what reads it takes it: it is empty then.");
        SecretBuyers x = new SecretBuyers();
        String[] texts = {"must 1;", "must", "", "must 1;", "must 1;"};
        int[] chains = {0, 0, 0, 4, 0};
        int[] days = {0, 0, 0, 0, 10000};
        for (int i = 0; i < texts.length; i++) {
            Checks.tell(x, texts[i], chains[i], days[i]);
            due("left by reading " + i, x.count(9), 0);
        }
        due("what is fed next begins anew", Checks.feed(x, "abc"), 3);
        due("and is read alone", x.brief(0, 0), STAND);
        Checks.tell(x, " ".repeat(14) + "z9", 0, 0);
        due("a word at its end ends there", Checks.tell(x, "let a=1;must a", 0, 0), STAND + 16 * 14);
        Checks.tell(x, " ".repeat(14) + "99", 0, 0);
        due("a number at its end ends there", Checks.tell(x, "let a=1;must 9", 0, 0), STAND + 16 * 14);
    }

    private static void longTokens() {
        Checks.sentence("TOKENS, each as long as can be");
        good("let lets = 1; must lets;");
        good("let orand = 1; must orand;");
        fault(STAND, "|mustnot 1;");
        fault(STAND, "must 1 |anditem 1;");
        good("must 12;");
        fault(STAND, "must 1 |2;");
        good("must 1<2;");
    }

    private static void blanks() {
        Checks.sentence("blanks (10, 32) between where one likes");
        good("must(1)and(2);");
        good("\n \n must\n\n1   ;\n");
        good("add 1when 1;must item 1and 1;");
        good(" ".repeat(500));
        fault(STAND, "must 1 \n|");
        fault(STAND, " \n|1");
        fault(STAND, "|m ust 1;");
        fault(STAND, "must 1 |2;");
    }

    private static void words() {
        Checks.sentence("WORDS (letters a .. z, 8 at most)");
        good("let a = 1; must a;");
        good("let z = 1; must z;");
        good("let azazazaz = 1; must azazazaz;");
        fault(STAND, "let |azazazaza = 1;");
        fault(STAND, "must |azazazaza;");
        fault(STAND, "let |" + "a".repeat(100) + " = 1;");
        fault(STAND, "let |A = 1;");
        fault(STAND, "let |` = 1;");
        fault(STAND, "let |{ = 1;");
        fault(STAND, "let a|B = 1;");
        fault(UNTOLD, "let abcdefgh = 1; must |abcdefgi;");
        fault(UNTOLD, "let abcdefgh = 1; must |bbcdefgh;");
        fault(UNTOLD, "let abcdefgh = 1; must |abcdefg;");
    }

    private static void numbers() {
        Checks.sentence("NUMBERS (1 to 4 digits; a letter may stand right behind)");
        value("7", 7);
        value("0", 0);
        value("0999", 999);
        value("9999 - 9000", 999);
        value("0009", 9);
        fault(STAND, "must |10000;");
        fault(STAND, "must |00000;");
        fault(STAND, "must |" + "9".repeat(100) + ";");
        fault(STAND, "bonus |12345when 1;");
        good("bonus 9999when 1;");
        good("must 1and 2or 3;");
        fault(STAND, "must 1|a;");
        fault(STAND, "must 1|/;");
        fault(STAND, "must 1|:;");
    }

    private static void signs() {
        Checks.sentence("the signs ( ) < = + - * and the semicolon.");
        good("must((1)<2)=3+4-5*6;");
        value("2 + 3", 5);
        value("3 - 2", 1);
        value("3 * 2", 6);
        value("2 < 3", 1);
        value("2 = 2", 1);
        value("(2)", 2);
    }

    private static void otherTokens() {
        Checks.sentence("All else (a longer WORD or NUMBER, too, at its first sign) is none.");
        for (char c = 33; c <= 126; c++) {
            boolean isToken = c >= 'a' && c <= 'z' || c >= '0' && c <= '9' || "()<=+-*;".indexOf(c) >= 0;
            if (isToken || c == '|') continue;
            fault(STAND, "must 1 |" + c + " 2;");
            fault(STAND, "must |" + c + ";");
            fault(STAND, "|" + c);
        }
        due("the bar itself", Checks.tell(new SecretBuyers(), "must 1|2;", 0, 0), STAND + 16 * 6);
        fault(STAND, "must 1 + |abcdefghi;");
        fault(STAND, "must 1 + |12345;");
        fault(STAND, "|abcdefghi");
        fault(STAND, "|12345");
    }

    private static void emptyBrief() {
        Checks.sentence("BRIEF: any number of");
        good("");
        good(" \n");
        good("must 1;");
        good("must 1; must 1;");
        SecretBuyers x = Scenes.plain(1, 1, 0);
        Scenes.see(x, 0, 0, 0, 10);
        x.brief(0, 0);
        due("an empty one is a brief", x.look(0, 5), 0);
        due("its score", x.look(0, 0), 0);
        due("its bonus", x.look(0, 1), 0);
    }

    private static void lines() {
        Checks.sentence("let NAME = E ; add E when E ; must E ; bonus N when E ;");
        good("let a = 1; add 1 when 1; must 1; bonus 1 when 1;");
        good("let a = 1 = 1;");
        String[] wrong = {"let|", "let a|", "let a =|", "let a = 1|", "let |;", "let a |;", "let a = |;", "let a = 1 |let",
            "add|", "add 1|", "add 1 when|", "add 1 when 1|", "add |;", "add 1 |;", "add 1 when |;", "add 1 |add",
            "must|", "must 1|", "must |;", "must 1 |must", "bonus|", "bonus 1|", "bonus 1 when|", "bonus 1 when 1|",
            "bonus |;", "bonus 1 |;", "bonus 1 when |;", "bonus 1 when 1 +|", "|;", "|1;", "|when 1;", "|item 1;", "|= 1;", "|(must 1;)"};
        for (String text : wrong) fault(STAND, text);
    }

    private static void tests() {
        Checks.sentence("E: TEST { and TEST or or TEST }. TEST: SUM [ < SUM or = SUM ].");
        good("must 1 < 2 and 1 = 2 or 1;");
        fault(STAND, "must 1 < 2 |< 3;");
        fault(STAND, "must 1 < 2 |= 3;");
        fault(STAND, "must 1 = 2 |< 3;");
        fault(STAND, "must 1 = 2 |= 3;");
        fault(STAND, "must |< 1;");
        fault(STAND, "must |and 1;");
        fault(STAND, "must 1 or |;");
        fault(STAND, "must 1 < |= 1;");
        good("must (1 < 2) < (3 = 4);");
    }

    private static void sumsAndTerms() {
        Checks.sentence("SUM: TERM { + or - TERM }. TERM: PART { * PART }.");
        fault(STAND, "must |+ 1;");
        fault(STAND, "must |- 1;");
        fault(STAND, "must 1 + |- 1;");
        fault(STAND, "must 1 * |* 1;");
        fault(STAND, "must 1 * |;");
        value("9 - 5 - 3", 1);
        value("9 - 5 + 3", 7);
        value("2 + 2 * 2", 6);
        value("2 * 2 + 2", 6);
    }

    private static void items() {
        Checks.sentence("item N (0 to 11)");
        for (int i = 0; i <= 11; i++) good("must item " + i + ";");
        fault(NUMBER, "must item |12;");
        fault(NUMBER, "must item |9999;");
        good("must item 0011;");
        fault(STAND, "must item |-1;");
    }

    private static void depth() {
        Checks.sentence("no PART lies within 4 of not and ( ).");
        for (String part : new String[] {"1", "item 1", "all", "minutes", "hour", "receipt", "week", "before", "not 1", "(1)"}) {
            good("must not not " + part + ";");
            good("must (( " + part + "));");
            boolean goesOn = part.startsWith("not") || part.startsWith("(");
            if (!goesOn) good("must not ( not " + part + ");");
            fault(MANY, "must not not not not |" + part + ";");
            fault(MANY, "must ((((|" + part + "))));");
            fault(MANY, "must not (not (|" + part + "));");
            fault(MANY, "must (not (not |" + part + "));");
        }
        good("let a = 1; must (((a)));");
        fault(MANY, "let a = 1; must ((((|a))));");
        good("must not not not 1 + not not not 1;");
        for (String line : new String[] {"let a = E;", "add E when 1;", "add 1 when E;", "must E;", "bonus 1 when E;"}) {
            good(line.replace("E", "(((1)))"));
            fault(MANY, line.replace("E", "((((|1))))"));
        }
        good("let a = (((1))); let b = (((a))); must (((b)));");
    }

    private static void leftOut() {
        Checks.sentence("(What stands in [ ] may be left out, { } are for \"any more\";");
        good("must 1;");
        good("must 1 < 1;");
        good("must 1" + " and 1".repeat(100) + ";");
        good("must 1" + " or 1 < 1".repeat(60) + ";");
        good("must 1" + "+1-1".repeat(200) + ";");
        good("must 1" + "*1".repeat(400) + ";");
    }

    private static void fromTheLeft() {
        Checks.sentence("and, or go from the left alike.)");
        value("1 or 1 and 0", 0);
        value("1 or (1 and 0)", 1);
        value("0 and 0 or 1", 1);
        value("0 and (0 or 1)", 0);
    }

    private static void otherWords() {
        Checks.sentence("NAMES are other WORDS than all those above");
        for (String word : WORDS) {
            fault(STAND, "let |" + word + " = 1;");
            good("let " + word.charAt(0) + " = 1;");
            if (word.length() < 8) good("let " + word + "s = 1; must " + word + "s;");
            if (word.length() > 2) good("let " + word.substring(1) + "x = 1;");
        }
        good("let name = 1; let test = 1; let sum = 1; let term = 1; let part = 1; let brief = 1; let e = 1; let n = 1;");
    }

    private static void eightNames() {
        Checks.sentence("8 at most, each told by let once, ahead of where it stands.");
        good(EIGHT + "must a+b+c+d+e+f+g+h;");
        fault(MANY, EIGHT + "let |i=1;");
        fault(UNTOLD, "must |a; let a = 1;");
        SecretBuyers x = Scenes.plain(1, 1, 0);
        Scenes.see(x, 0, 0, 0, 10);
        String eight = "let a=1;let b=2;let c=4;let d=8;let e=16;let f=32;let g=64;let h=128;";
        Checks.tell(x, eight + "add h + g + a when 1;", 0, 0);
        due("each has its own", x.look(0, 0), 193);
        Checks.tell(x, "let a = 7;", 0, 0);
        due("another brief does not know them", Checks.tell(x, "must a;", 0, 0), UNTOLD + 16 * 5);
    }

    private static void onceTold() {
        Checks.sentence("3 a NAME that is told;");
        fault(TWICE, "let a = 1; let |a = 1;");
        fault(TWICE, EIGHT + "let |h = 1;");
        fault(TWICE, "let a = 1; let |a");
        fault(STAND, "let a = 1; |a = 1;");
    }

    private static void sixteenLines() {
        Checks.sentence("16 lines at most, let as well;");
        good("must 1;".repeat(16));
        good(EIGHT + "must 1;".repeat(8));
        good("must 1;".repeat(15) + "let a = 1;");
        fault(MANY, "must 1;".repeat(16) + "|must 1;");
        fault(MANY, EIGHT + "must 1;".repeat(8) + "|add 1 when 1;");
        fault(MANY, "must 1;".repeat(16) + "|let a = 1;");
        fault(MANY, "must 1;".repeat(16) + "|bonus 1 when 1;");
        SecretBuyers x = Scenes.plain(1, 1, 0);
        Scenes.see(x, 0, 0, 0, 10);
        Checks.tell(x, "add 1 when 1;".repeat(16), 0, 0);
        due("each of them counts", x.look(0, 0), 16);
    }

    private static void bonusRange() {
        Checks.sentence("bonus 0 to 9999.");
        for (String n : new String[] {"0", "1", "9999", "0000"}) {
            SecretBuyers x = Scenes.plain(1, 1, 0);
            Scenes.see(x, 0, 0, 0, 10);
            due("bonus " + n, Checks.tell(x, "bonus " + n + " when 1;", 0, 0), 0);
            due("is paid", x.look(0, 1), Integer.parseInt(n));
        }
        fault(STAND, "bonus |10000 when 1;");
        fault(STAND, "bonus |- 1 when 1;");
    }

    private static void theEnd() {
        Checks.sentence("the place (from 0) of a token, the end being one at the text's length:");
        fault(STAND, "|)");
        fault(STAND, " |)");
        fault(STAND, "must|");
        fault(STAND, "must  |");
        fault(STAND, "must 1\n\n|");
        fault(STAND, "add 1|");
    }

    private static void firstAndLeast() {
        Checks.sentence("of the first token from the left that is wrong the least:");
        fault(UNTOLD, "must |a + b / 12345;");
        fault(NUMBER, "must item |99 + a;");
        fault(STAND, "must 1 |/ a;");
        fault(TWICE, EIGHT + "let |a = 1;");
        fault(STAND, EIGHT + "let |not = 1;");
        fault(STAND, EIGHT + "let |abcdefghi = 1;");
        fault(UNTOLD, "must ((((|a))));");
        fault(STAND, "must ((((|12345))));");
        fault(STAND, "must ((((|))));");
        fault(MANY, "must ((((|item 12))));");
        fault(MANY, "must ((((|item a))));");
        fault(STAND, "must 1;".repeat(16) + "|a");
        fault(STAND, "must 1;".repeat(16) + "|;");
        fault(STAND, "must 1;".repeat(16) + "|when");
        fault(STAND, "must 1;".repeat(16) + "|lets");
    }

    private static void kindOne() {
        Checks.sentence("1 it is none, or can't stand there;");
        fault(STAND, "must |?;");
        fault(STAND, "must |when;");
        fault(STAND, "must 1 |not;");
        fault(STAND, "must |let;");
        fault(STAND, "let a = 1; |item a;");
        fault(STAND, "let a = 1; bonus |a when 1;");
        fault(STAND, "bonus 1 |and 1 when 1;");
        fault(STAND, "must (1|;");
        fault(STAND, "must 1|);");
        fault(STAND, "must (1 |2);");
    }

    private static void kindTwo() {
        Checks.sentence("2 a NAME that is not told ahead (by its whole line);");
        fault(UNTOLD, "let a = |a;");
        fault(UNTOLD, "let a = 1 + |a;");
        fault(UNTOLD, "let a = 1; let b = a + |b;");
        good("let a = 1; let b = a + a;");
        fault(UNTOLD, "add |a when 1;");
        fault(UNTOLD, "add 1 when |a;");
        fault(UNTOLD, "bonus 1 when |a;");
        fault(UNTOLD, "must not |a;");
        fault(UNTOLD, "must ( |a );");
        fault(STAND, "must item |a;");
    }

    private static void kindThree() {
        Checks.sentence("3 a NAME that is told;");
        fault(TWICE, "let a = 1; must a; let |a = 2;");
        fault(TWICE, "let abcdefgh = 1; let |abcdefgh = 2;");
        good("let abcdefgh = 1; let abcdefg = 2; let bcdefgh = 3;");
    }

    private static void kindFour() {
        Checks.sentence("4 a NUMBER that is not as told;");
        fault(NUMBER, "must item |12;");
        fault(NUMBER, "must item |0012;");
        fault(NUMBER, "must not item|12;");
        fault(STAND, "must item |10000;");
        good("must item 11 + 12;");
    }

    private static void kindFive() {
        Checks.sentence("5 one too many: the words let, add, must, bonus of a 17th line; the ninth NAME; not, or a PART, within 4 others (item at its word).");
        for (String word : new String[] {"let", "add", "must", "bonus"}) fault(MANY, "must 1;".repeat(16) + "|" + word);
        fault(MANY, EIGHT + "let |ninth = 1;");
        fault(MANY, "must not not not not |not 1;");
        fault(MANY, "must not not not not |1;");
        fault(MANY, "must not not not not |( 1 );");
        fault(MANY, "must ( ( ( ( |not 1 ) ) ) );");
        fault(MANY, "must ( ( ( ( |item 1 ) ) ) );");
        fault(MANY, "must not ( not ( |item 12 ) );");
    }

    private static void briefsFull() {
        Checks.sentence("16 at most. Facts");
        SecretBuyers x = Scenes.plain(1, 1, 0);
        Scenes.see(x, 0, 0, 0, 10);
        for (int i = 0; i < 16; i++) due("brief " + i, Checks.tell(x, "add 1 when 1;", 0, 0), 0);
        due("the 16th is the latest", x.look(0, 5), 15);
        due("a 17th", Checks.tell(x, "add 2 when 1;", 0, 0), -1);
        due("16 are there", x.count(8), 16);
        due("it changed nothing", x.look(0, 0), 1);
    }

    private static void briefDays() {
        Checks.sentence("is told on the DAY NOW for a CHAIN and VISITS from a DAY (0 to 9999) on");
        SecretBuyers x = Scenes.plain(1, 1, 9999);
        int[] days = {0, 49, 50, 9998, 9999};
        for (int day : days) Scenes.see(x, 0, 0, day, 10);
        due("from 50", Checks.tell(x, "add 50 when 1;", 0, 50), 0);
        int[] want = {0, 0, 50, 50, 50};
        for (int i = 0; i < days.length; i++) due("on day " + days[i], x.look(i, 0), want[i]);
        due("from 9999", Checks.tell(x, "add 99 when 1;", 0, 9999), 0);
        due("on day 9998", x.look(3, 5), 0);
        due("on day 9999", x.look(4, 5), 1);
        due("from 0", Checks.tell(x, "add 1 when 1;", 0, 0), 0);
        due("on day 0", x.look(0, 5), 2);
        for (int wrong : Scenes.beside(0, 9999)) due("from " + wrong, Checks.tell(x, "add 1 when 1;", 0, wrong), -1);
        due("another chain's", Checks.tell(x, "add 7 when 1;", 1, 0), 0);
        due("is not this one's", x.look(0, 5), 2);
    }

    private static void briefSpans() {
        Checks.sentence("until the next DAY for which one of that CHAIN is told");
        SecretBuyers x = Scenes.plain(1, 1, 100);
        for (int day : new int[] {9, 10, 19, 20, 21}) Scenes.see(x, 0, 0, day, 10);
        Checks.tell(x, "", 0, 20);
        Checks.tell(x, "", 0, 10);
        Checks.tell(x, "", 1, 15);
        int[] want = {NONE, 1, 1, 0, 0};
        for (int i = 0; i < want.length; i++) due("visit " + i, x.look(i, 5), want[i]);
        x.days(1);
        Checks.tell(x, "", 0, 19);
        due("by one told between", x.look(2, 5), 3);
        due("ahead of it", x.look(1, 5), 1);
        x.view(100);
        due("which is not in the view", x.look(2, 5), 1);
    }

    private static void latestOfADay() {
        Checks.sentence("(of one DAY the latest told)");
        SecretBuyers x = Scenes.plain(1, 1, 100);
        Scenes.see(x, 0, 0, 50, 10);
        for (int i = 0; i < 3; i++) {
            Checks.tell(x, "", 0, 50);
            due("told " + i, x.look(0, 5), i);
        }
        Checks.tell(x, "", 0, 49);
        due("one of another day told later", x.look(0, 5), 2);
        due("a fault is not told", Checks.tell(x, "must", 0, 50) > 0 ? x.look(0, 5) : NONE, 2);
    }

    private static void factsOfItems() {
        Checks.sentence("Facts of a VISIT: item k: 1 yes, 0 no (with APPEALS); all: how many yes;");
        SecretBuyers x = Scenes.plain(1, 1, 0);
        x.visit(0, 0, 0, 100, 10, 0, NONE);
        x.visit(0, 0, 0, 200, 10, 4095, NONE);
        x.visit(0, 0, 0, 300, 10, 2049, NONE);
        Checks.tell(x, "add all when 1; add 100 * item 0 when 1; add 200 * item 11 when 1;", 0, 0);
        due("none", x.look(0, 0), 0);
        due("all", x.look(1, 0), 312);
        due("the first and the last", x.look(2, 0), 302);
        x.appeal(0, 11);
        due("the last by an appeal", x.look(0, 0), 201);
        x.appeal(1, 0);
        due("all but the first by an appeal", x.look(1, 0), 211);
    }

    private static void factsOfTime() {
        Checks.sentence("minutes, hour (of its MINUTE, / 60); receipt 1 or 0;");
        SecretBuyers x = Scenes.plain(1, 1, 0);
        Checks.tell(x, "add hour when 1;", 0, 0);
        int[][] cases = {{0, 0}, {59, 0}, {60, 1}, {119, 1}, {120, 2}, {600, 10}, {659, 10}, {1379, 22}, {1380, 23}, {1439, 23}};
        for (int[] c : cases) due("hour of " + c[0], x.look(Scenes.seeAt(x, 0, 0, 0, c[0]), 0), c[1]);
        SecretBuyers y = Scenes.plain(1, 1, 0);
        Checks.tell(y, "add minutes when 1; add 500 when receipt; add receipt when 1;", 0, 0);
        due("minutes 1", y.look(y.visit(0, 0, 0, 0, 1, 1, NONE), 0), 1);
        due("minutes 300", y.look(y.visit(0, 0, 0, 0, 300, 1, NONE), 0), 300);
        due("a receipt of minute 0", y.look(y.visit(0, 0, 0, 0, 1, 1, 0), 0), 502);
        due("a receipt of minute 1439", y.look(y.visit(0, 0, 0, 0, 1, 1, 1439), 0), 502);
    }

    private static void factsOfWeeks() {
        Checks.sentence("week (its WEEK modulo 53);");
        SecretBuyers x = Scenes.plain(1, 1, 9999);
        Checks.tell(x, "add week when 1;", 0, 0);
        int[][] cases = {{0, 0}, {6, 0}, {7, 1}, {370, 52}, {371, 0}, {377, 0}, {378, 1}, {9999, 1428 % 53}};
        for (int[] c : cases) due("week of " + c[0], x.look(Scenes.see(x, 0, 0, c[0], 10), 0), c[1]);
    }

    private static void factsOfBefore() {
        Checks.sentence("before: SCORE of the latest VISIT of that SHOP ahead (by DAY, MINUTE, number) in THE VIEW, 0 if there is none.");
        SecretBuyers x = Scenes.plain(2, 2, 50);
        Checks.tell(x, "add before + minutes when 1;", 0, 0);
        x.visit(0, 0, 20, 600, 1, 1, NONE);
        due("none", x.look(0, 0), 1);
        x.visit(1, 0, 10, 600, 2, 1, NONE);
        due("of another shop", x.look(0, 0), 1);
        x.visit(0, 0, 21, 0, 4, 1, NONE);
        due("of a later day", x.look(0, 0), 1);
        due("that one's", x.look(2, 0), 5);
        x.visit(0, 0, 20, 601, 8, 1, NONE);
        due("of a later minute", x.look(0, 0), 1);
        due("that one's", x.look(3, 0), 9);
        x.visit(0, 1, 20, 600, 16, 1, NONE);
        due("of a greater number", x.look(0, 0), 1);
        due("that one's", x.look(4, 0), 17);
        due("the latest ahead is that one now", x.look(3, 0), 25);
        x.days(1);
        x.visit(0, 1, 20, 599, 32, 2, NONE);
        due("one that can't be alone is one, too", x.look(0, 0), 33);
        x.view(50);
        due("not in the view", x.look(0, 0), 1);
    }

    private static void goRound() {
        Checks.sentence("Numbers go round in 32 bits;");
        String most = "(256 * 256 * 256 * 128 - 1)";
        value(most + " + 1 < 0", 1);
        value(most + " < 0", 0);
        value("0 - " + most + " - 1 < 0", 1);
        value("0 - " + most + " - 2 < 0", 0);
        value(most + " * 2 + 2", 0);
        value(most + " * " + most, 1);
        value("256 * 256 * 256 * 256", 0);
        value("256 * 256 * 256 * 256 + 5", 5);
        SecretBuyers x = Scenes.plain(1, 1, 0);
        Scenes.see(x, 0, 0, 0, 10);
        Checks.tell(x, "add " + most + " when 1; add " + most + " when 1; add 9 when 1;", 0, 0);
        due("the sum of the lines, too", x.look(0, 0), 7);
    }

    private static void oneOrZero() {
        Checks.sentence("\"and\", \"or\", <, = tell 1 or 0, not 1 of 0, else 0.");
        value("2 and 3", 1);
        value("2 and 0", 0);
        value("0 and 2", 0);
        value("0 or 3", 1);
        value("3 or 0", 1);
        value("0 or 0", 0);
        value("(0 - 1) and (0 - 2)", 1);
        value("2 < 3", 1);
        value("3 < 3", 0);
        value("4 < 3", 0);
        value("0 - 1 < 0", 1);
        value("3 = 3", 1);
        value("3 = 4", 0);
        value("not 0", 1);
        value("not 1", 0);
        value("not 2", 0);
        value("not (0 - 1)", 0);
        value("not 0 + 1", 2);
    }

    private static void namesWhereTheyStand() {
        Checks.sentence("(A NAME is worked where it stands.)");
        SecretBuyers x = Scenes.plain(1, 1, 0);
        x.visit(0, 0, 0, 100, 10, 1, NONE);
        x.visit(0, 0, 0, 200, 20, 3, NONE);
        Checks.tell(x, "let a = minutes * all; let b = a + before; add b when a; bonus 5 when 30 < b;", 0, 0);
        due("of the first", x.look(0, 0), 10);
        due("of the second", x.look(1, 0), 50);
        due("its bonus", x.look(1, 1), 5);
        due("the first's bonus", x.look(0, 1), 0);
    }

    private static int scoreOf(String text, int what) {
        SecretBuyers x = Scenes.plain(1, 1, 0);
        Scenes.see(x, 0, 0, 0, 10);
        due("brief '" + text + "'", Checks.tell(x, text, 0, 0), 0);
        return x.look(0, what);
    }

    private static void scoreMust() {
        Checks.sentence("SCORE of a VISIT: 0 if a must line's E is 0;");
        due("ahead", scoreOf("must 0; add 5 when 1;", 0), 0);
        due("behind", scoreOf("add 5 when 1; must 0;", 0), 0);
        due("one of two", scoreOf("must 1; must 0; add 5 when 1;", 0), 0);
        due("1", scoreOf("must 1; add 5 when 1;", 0), 5);
        due("2", scoreOf("must 2; add 5 when 1;", 0), 5);
        due("below 0", scoreOf("must 0 - 1; add 5 when 1;", 0), 5);
        due("that goes round to 0", scoreOf("must 256 * 256 * 256 * 256; add 5 when 1;", 0), 0);
    }

    private static void scoreWithin() {
        Checks.sentence("else the sum of the E of all add lines whose when is not 0, within 0 and 1000;");
        due("999", scoreOf("add 999 when 1;", 0), 999);
        due("1000", scoreOf("add 1000 when 1;", 0), 1000);
        due("1001", scoreOf("add 1001 when 1;", 0), 1000);
        due("1001 by two", scoreOf("add 999 when 1; add 2 when 1;", 0), 1000);
        due("0", scoreOf("add 0 when 1;", 0), 0);
        due("-1", scoreOf("add 0 - 1 when 1;", 0), 0);
        due("-1 and 2", scoreOf("add 0 - 1 when 1; add 2 when 1;", 0), 1);
        due("2000 and -1500", scoreOf("add 2000 when 1; add 0 - 1500 when 1;", 0), 500);
        due("when 0", scoreOf("add 5 when 0; add 1 when 1;", 0), 1);
        due("when below 0", scoreOf("add 5 when 0 - 1;", 0), 5);
    }

    private static void scoreWithout() {
        Checks.sentence("0 without a BRIEF.");
        SecretBuyers x = Scenes.plain(1, 1, 10);
        Scenes.see(x, 0, 0, 4, 10);
        due("no brief", x.look(0, 0), 0);
        Checks.tell(x, "add 9 when 1; bonus 9 when 1;", 0, 5);
        Checks.tell(x, "add 9 when 1; bonus 9 when 1;", 1, 0);
        due("none for its day and chain", x.look(0, 0), 0);
        due("its bonus", x.look(0, 1), 0);
        due("its brief", x.look(0, 5), NONE);
    }

    private static void bonusFirst() {
        Checks.sentence("BONUS: N of the first bonus line whose when is not 0, else 0");
        due("no line", scoreOf("add 5 when 1;", 1), 0);
        due("none", scoreOf("bonus 5 when 0; bonus 6 when 0;", 1), 0);
        due("the second", scoreOf("bonus 5 when 0; bonus 6 when 2; bonus 7 when 1;", 1), 6);
        due("the first, of 0", scoreOf("bonus 0 when 1; bonus 6 when 1;", 1), 0);
        due("when below 0", scoreOf("bonus 5 when 0 - 1;", 1), 5);
    }

    private static void bonusMust() {
        Checks.sentence("(0 if a must line's E is 0, too).");
        due("behind", scoreOf("bonus 5 when 1; must 0;", 1), 0);
        due("ahead", scoreOf("must 0; bonus 5 when 1;", 1), 0);
        due("1", scoreOf("must 1; bonus 5 when 1;", 1), 5);
    }
}
