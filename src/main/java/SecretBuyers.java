import java.util.Arrays;
import java.util.NoSuchElementException;

/** Visits of strangers to shops, their scores and what can be known of them; see DOC.md for the promises. */
public final class SecretBuyers {
    public static final int NONE = -1;

    private static final int LAST_DAY = 9999;
    private static final int LONGEST_PASS = 1000;
    private static final int WEEK_DAYS = 7;
    private static final int LAST_WEEK = 1427;
    private static final int LAST_MINUTE = 1439;
    private static final int LONGEST_VISIT = 300;
    private static final int LAST_PLACE = 99;
    private static final int CHAINS = 4;
    private static final int ITEMS = 12;
    private static final int APPEAL_DAYS = 14;

    private static final int MOST_SHOPS = 20;
    private static final int MOST_BUYERS = 8;
    private static final int MOST_VISITS = 120;
    private static final int MOST_A_DAY = 12;
    private static final int MOST_APPEALS = 60;
    private static final int MOST_BRIEFS = 16;
    private static final int MOST_SIGNS = 1000;
    private static final int MOST_LINES = 16;
    private static final int MOST_NAMES = 8;
    private static final int MOST_DEPTH = 4;
    private static final int LONGEST_WORD = 8;
    private static final int LONGEST_NUMBER = 4;
    private static final int MOST_SCORE = 1000;
    private static final int MOST_GIVEN = 8;
    private static final int MOST_ENOUGH = 999;

    private static final int CAN_BE = 0;
    private static final int FALSE_ALONE = 1;
    private static final int SURE = 2;
    private static final int MAY_BE = 3;
    private static final int UNJUDGED = 4;

    // Kinds of tokens; the same numbers are the operations of a brief's code.
    private static final int NO_TOKEN = 0;
    private static final int END = 1;
    private static final int NUMBER = 2;
    private static final int NAME = 3;
    private static final int OPEN = 4;
    private static final int CLOSE = 5;
    private static final int LESS = 6;
    private static final int SAME = 7;
    private static final int PLUS = 8;
    private static final int MINUS = 9;
    private static final int TIMES = 10;
    private static final int SEMICOLON = 11;
    private static final int LET = 12;
    private static final int ADD = 13;
    private static final int WHEN = 14;
    private static final int MUST = 15;
    private static final int BONUS = 16;
    private static final int AND = 17;
    private static final int OR = 18;
    private static final int ITEM = 19;
    private static final int ALL = 20;
    private static final int MINUTES = 21;
    private static final int HOUR = 22;
    private static final int RECEIPT = 23;
    private static final int WEEK = 24;
    private static final int BEFORE = 25;
    private static final int NOT = 26;

    // The words from LET to NOT, in the order of those kinds, their letters packed as the tape packs them.
    private static final long[] WORDS = {
        0x6c6574L, // let
        0x616464L, // add
        0x7768656eL, // when
        0x6d757374L, // must
        0x626f6e7573L, // bonus
        0x616e64L, // and
        0x6f72L, // or
        0x6974656dL, // item
        0x616c6cL, // all
        0x6d696e75746573L, // minutes
        0x686f7572L, // hour
        0x72656365697074L, // receipt
        0x7765656bL, // week
        0x6265666f7265L, // before
        0x6e6f74L, // not
    };

    // How tightly the signs and words between two parts bind.
    private static final int TESTS = 0;
    private static final int TEST = 1;
    private static final int SUM = 2;
    private static final int TERM = 3;
    private static final int PART = 4;

    private static final int CODE_SHIFT = 5;
    private static final int CODE_MASK = 31;

    private static final int CANNOT_STAND = 1;
    private static final int NOT_TOLD = 2;
    private static final int TOLD_ALREADY = 3;
    private static final int WRONG_NUMBER = 4;
    private static final int TOO_MANY = 5;

    private final Book book;
    private final Tape tape;
    private final Reader reader;
    private final Truth truth;
    private final Scorer scorer;
    private final Means means;
    private final Giver giver;
    private int fee;
    private int spread;

    public SecretBuyers() {
        book = new Book();
        tape = new Tape();
        reader = new Reader(tape);
        truth = new Truth(book);
        scorer = new Scorer(book);
        means = new Means(book, truth, scorer);
        giver = new Giver(book);
        fee = 20;
        spread = 60;
    }

    public int days(int n) {
        if (!isWithin(n, 0, LONGEST_PASS) || book.now + n > LAST_DAY) {
            return NONE;
        }
        book.now += n;
        return book.now;
    }

    public boolean view(int day) {
        if (!isWithin(day, 0, book.now)) {
            return false;
        }
        book.lookFrom(day);
        return true;
    }

    public int shop(int x, int y, int chain, int from, int to, boolean records) {
        if (!isPlace(x, y) || !isChain(chain) || !isMinute(from) || !isMinute(to) || from > to) {
            return NONE;
        }
        if (book.shopCount >= MOST_SHOPS) {
            return NONE;
        }
        book.shops[book.shopCount] = new Shop(new Place(x, y), chain, from, to, records);
        book.shopCount++;
        return book.shopCount - 1;
    }

    public int buyer(int x, int y) {
        if (!isPlace(x, y) || book.buyerCount >= MOST_BUYERS) {
            return NONE;
        }
        book.homes[book.buyerCount] = new Place(x, y);
        book.buyerCount++;
        return book.buyerCount - 1;
    }

    public boolean terms(int pace, int fee, int spread) {
        if (!isWithin(pace, 1, 60) || !isWithin(fee, 0, 999) || !isWithin(spread, 0, 1000)) {
            return false;
        }
        book.walkAt(pace);
        this.fee = fee;
        this.spread = spread;
        return true;
    }

    public boolean rest(int days, int reach) {
        if (!isWithin(days, 0, 400) || !isWithin(reach, 0, 198)) {
            return false;
        }
        book.restDays = days;
        book.reach = reach;
        return true;
    }

    public int visit(int shop, int buyer, int day, int minute, int minutes, int form, int receipt) {
        if (!book.hasShop(shop) || !book.hasBuyer(buyer) || !isWithin(day, 0, book.now)) {
            return NONE;
        }
        if (!isMinute(minute) || !isWithin(minutes, 1, LONGEST_VISIT) || !isWithin(form, 0, (1 << ITEMS) - 1)) {
            return NONE;
        }
        if (receipt != NONE && !isMinute(receipt)) {
            return NONE;
        }
        if (book.visitCount >= MOST_VISITS || book.toldOf(buyer, day) >= MOST_A_DAY) {
            return NONE;
        }
        Visit told = new Visit(book.visitCount, book.now);
        told.goes(shop, buyer, day, minute, minutes);
        told.tells(form, receipt);
        book.keepVisit(told);
        return told.number;
    }

    public boolean appeal(int visit, int item) {
        if (!isWithin(visit, 0, book.visitCount - 1) || !isWithin(item, 0, ITEMS - 1)) {
            return false;
        }
        Visit turned = book.visits[visit];
        if (!book.shops[turned.shop].records || book.now - turned.told > APPEAL_DAYS) {
            return false;
        }
        if (book.appealCount >= MOST_APPEALS) {
            return false;
        }
        book.keepAppeal(turned, item);
        return true;
    }

    public int feed(long a, long b, long c) {
        tape.addBytes(a);
        tape.addBytes(b);
        tape.addBytes(c);
        return tape.length;
    }

    public int brief(int chain, int day) {
        if (!isChain(chain) || !isDay(day) || book.briefCount >= MOST_BRIEFS) {
            tape.length = 0;
            return -1;
        }
        int fault = reader.readBrief();
        tape.length = 0;
        if (fault == 0) {
            book.keepBrief(new Brief(chain, day, book.now, reader.codeRead()));
        }
        return fault;
    }

    public int look(int visit, int what) throws NoSuchElementException {
        if (!book.isKnown(visit) || !isWithin(what, 0, 5)) {
            throw new NoSuchElementException("no such visit in the view, or nothing such of it");
        }
        Visit seen = book.visits[visit];
        if (what == 2) {
            return seen.seenForm;
        }
        if (what == 3 || what == 4) {
            truth.refresh();
            return what == 3 ? seen.state : seen.counts() ? 1 : 0;
        }
        scorer.refresh();
        return what == 0 ? seen.score : what == 1 ? seen.bonus : seen.brief;
    }

    public int fair(int visit) throws NoSuchElementException {
        if (!book.isKnown(visit)) {
            throw new NoSuchElementException("no such visit in the view");
        }
        means.refresh();
        return means.fairScore(book.visits[visit]);
    }

    public int fewest(int buyer, int day) {
        if (!book.hasBuyer(buyer) || !isDay(day)) {
            return NONE;
        }
        truth.refresh();
        return truth.fewestOf(buyer, day);
    }

    public int set(int buyer, int day, int i) {
        if (!book.hasBuyer(buyer) || !isDay(day) || !isWithin(i, 0, MOST_A_DAY - 1)) {
            return NONE;
        }
        truth.refresh();
        return truth.falseAt(buyer, day, i);
    }

    public int lean(int buyer) throws NoSuchElementException {
        if (!book.hasBuyer(buyer)) {
            throw new NoSuchElementException("no such buyer");
        }
        means.refresh();
        if (!means.hasLean(buyer)) {
            throw new NoSuchElementException("less than two meetings");
        }
        return means.leanOf(buyer);
    }

    public int meetings(int a, int b) {
        if (!book.hasBuyer(a) || !book.hasBuyer(b) || a == b) {
            return NONE;
        }
        means.refresh();
        return means.meetingsOf(a, b);
    }

    public int mean(int shop, int from, int to) throws NoSuchElementException {
        means.refresh();
        if (!hasMean(shop, from, to)) {
            throw new NoSuchElementException("no such shop or days, or no visit that counts");
        }
        return means.meanOf(shop);
    }

    public int doubt(int shop, int from, int to) {
        means.refresh();
        return hasMean(shop, from, to) ? means.doubtOf(shop, spread) : NONE;
    }

    public int apart(int a, int b, int from, int to) {
        means.refresh();
        if (a == b || !hasMean(a, from, to) || !book.hasShop(b) || !means.isMet(b)) {
            return NONE;
        }
        if (means.isLess(a, b, spread)) {
            return 1;
        }
        return means.isLess(b, a, spread) ? 2 : 0;
    }

    public int order(int chain, int from, int to, int what) {
        if (!isChain(chain) || !isSpan(from, to) || !isWithin(what, 0, 1)) {
            return NONE;
        }
        means.refresh();
        means.addDays(from, to);
        if (means.rankChain(chain) == 0) {
            return NONE;
        }
        return what == 0 ? means.longestRow(spread) : means.leadBits(spread);
    }

    public int enough(int a, int b, int from, int to) {
        means.refresh();
        if (a == b || !hasMean(a, from, to) || !book.hasShop(b) || !means.isMet(b)) {
            return NONE;
        }
        int between = Math.abs(means.meanOf(a) - means.meanOf(b));
        for (int n = 1; n <= MOST_ENOUGH; n++) {
            if (between > 2 * (100 * spread / n)) {
                return n;
            }
        }
        return NONE;
    }

    public int may(int buyer, int shop, int day) {
        if (!book.hasBuyer(buyer) || !book.hasShop(shop) || !isDay(day)) {
            return NONE;
        }
        return book.mayGo(buyer, shop, day) ? 1 : 0;
    }

    public int given(int set, int day, int what) {
        if (set <= 0 || set >= 1 << book.shopCount || Integer.bitCount(set) > MOST_GIVEN) {
            return NONE;
        }
        if (!isDay(day) || !isWithin(what, 0, MOST_SHOPS)) {
            return NONE;
        }
        if (what < MOST_SHOPS && (set >> what & 1) == 0) {
            return NONE;
        }
        if (!giver.give(set, day)) {
            return NONE;
        }
        return what == MOST_SHOPS ? giver.wholeWay() : giver.buyerFor(what);
    }

    public int drawn(int shop, int week, int g) {
        if (!book.hasShop(shop) || !isWithin(week, 0, LAST_WEEK) || g < 0) {
            return NONE;
        }
        long turned = g;
        for (int i = 0; i <= shop; i++) {
            turned = (turned * 1103515245L + 12345L) % 2147483648L;
        }
        int drawn = (int) (turned / 65536L);
        Visit latest = book.latestOf(shop);
        if (latest == null) {
            return week * WEEK_DAYS + drawn % WEEK_DAYS;
        }
        int nth = drawn % (WEEK_DAYS - 1);
        int barred = latest.day % WEEK_DAYS;
        return week * WEEK_DAYS + (nth < barred ? nth : nth + 1);
    }

    public int sway(int shop, int what) {
        if (!book.hasShop(shop) || !isWithin(what, 0, 1)) {
            return NONE;
        }
        Visit latest = book.latestOf(shop);
        if (latest == null) {
            return NONE;
        }
        scorer.refresh();
        int item = NONE;
        int greatest = 0;
        for (int i = 0; i < ITEMS; i++) {
            int change = Math.abs(scorer.bonusWith(latest, latest.seenForm ^ 1 << i) - latest.bonus);
            if (change > greatest) {
                greatest = change;
                item = i;
            }
        }
        return item == NONE || what == 0 ? item : greatest;
    }

    public int sum(int what, int which, int from, int to) {
        if (!isSpan(from, to)) {
            return NONE;
        }
        if (what == 0 && isChain(which)) {
            return bonusesOf(which, from, to);
        }
        if (what == 1 && book.hasBuyer(which)) {
            return feesOf(which, from, to);
        }
        return NONE;
    }

    public int count(int what) {
        switch (what) {
            case 0: return book.now;
            case 1: return book.seenDay();
            case 2: return book.shopCount;
            case 3: return book.buyerCount;
            case 4: return book.visitCount;
            case 5: return book.knownVisits();
            case 7: return book.appealCount;
            case 8: return book.briefCount;
            case 9: return tape.length;
            case 6:
            case 10:
            case 11: return countTruth(what);
            default: return NONE;
        }
    }

    private int countTruth(int what) {
        truth.refresh();
        return what == 6 ? truth.counting : what == 10 ? truth.falseAlone : truth.fewestOfAll;
    }

    /** Adds the days up for all shops, so that the means of others can be asked behind it. */
    private boolean hasMean(int shop, int from, int to) {
        if (!book.hasShop(shop) || !isSpan(from, to)) {
            return false;
        }
        means.addDays(from, to);
        return means.isMet(shop);
    }

    private int bonusesOf(int chain, int from, int to) {
        truth.refresh();
        scorer.refresh();
        int known = book.knownVisits();
        int all = 0;
        for (int i = 0; i < known; i++) {
            Visit v = book.visits[i];
            if (v.counts() && isWithin(v.day, from, to) && book.shops[v.shop].chain == chain) {
                all += v.bonus;
            }
        }
        return all;
    }

    private int feesOf(int buyer, int from, int to) {
        truth.refresh();
        int known = book.knownVisits();
        int all = 0;
        for (int i = 0; i < known; i++) {
            Visit v = book.visits[i];
            if (v.counts() && isWithin(v.day, from, to) && v.buyer == buyer) {
                all += fee + book.pace / 5 * 2 * book.wayFromHome(buyer, v.shop);
            }
        }
        return all;
    }

    private static boolean isWithin(int n, int least, int most) {
        return n >= least && n <= most;
    }

    private static boolean isDay(int day) {
        return isWithin(day, 0, LAST_DAY);
    }

    private static boolean isSpan(int from, int to) {
        return isDay(from) && isDay(to) && from <= to;
    }

    private static boolean isMinute(int minute) {
        return isWithin(minute, 0, LAST_MINUTE);
    }

    private static boolean isPlace(int x, int y) {
        return isWithin(x, 0, LAST_PLACE) && isWithin(y, 0, LAST_PLACE);
    }

    private static boolean isChain(int chain) {
        return isWithin(chain, 0, CHAINS - 1);
    }

    private static final class Place {
        final int x;
        final int y;

        Place(int x, int y) {
            this.x = x;
            this.y = y;
        }

        int wayTo(Place other) {
            return Math.abs(x - other.x) + Math.abs(y - other.y);
        }
    }

    private static final class Shop {
        final Place place;
        final int chain;
        final int opens;
        final int closes;
        final boolean records;

        Shop(Place place, int chain, int opens, int closes, boolean records) {
            this.place = place;
            this.chain = chain;
            this.opens = opens;
            this.closes = closes;
            this.records = records;
        }
    }

    private static final class Visit {
        final int number;
        final int told;
        int shop;
        int buyer;
        int day;
        int minute;
        int minutes;
        int form;
        int receipt;
        int seenForm;
        int state;
        int score;
        int bonus;
        int before;
        int brief;

        Visit(int number, int told) {
            this.number = number;
            this.told = told;
        }

        void goes(int toShop, int byBuyer, int onDay, int fromMinute, int forMinutes) {
            shop = toShop;
            buyer = byBuyer;
            day = onDay;
            minute = fromMinute;
            minutes = forMinutes;
        }

        void tells(int filled, int onReceipt) {
            form = filled;
            seenForm = filled;
            receipt = onReceipt;
        }

        boolean counts() {
            return state == CAN_BE || state == MAY_BE;
        }

        int endMinute() {
            return minute + minutes;
        }

        int inWeek() {
            return day / WEEK_DAYS;
        }
    }

    private static final class Brief {
        final int chain;
        final int from;
        final int told;
        final int[] code;

        Brief(int chain, int from, int told, int[] code) {
            this.chain = chain;
            this.from = from;
            this.told = told;
            this.code = code;
        }
    }

    /** What has been told, and from which day it is looked at. */
    private static final class Book {
        final Shop[] shops = new Shop[MOST_SHOPS];
        final Place[] homes = new Place[MOST_BUYERS];
        final Visit[] visits = new Visit[MOST_VISITS];
        // By day, minute and number; those that the view leaves out stand in it too.
        final Visit[] byTime = new Visit[MOST_VISITS];
        final Brief[] briefs = new Brief[MOST_BRIEFS];
        final int[] appealVisit = new int[MOST_APPEALS];
        final int[] appealItem = new int[MOST_APPEALS];
        final int[] appealTold = new int[MOST_APPEALS];
        int shopCount;
        int buyerCount;
        int visitCount;
        int appealCount;
        int briefCount;
        int now;
        // NONE while the view goes along with the day now.
        int fixedView = NONE;
        int pace = 5;
        int restDays = 30;
        int reach = 60;
        // Grows whenever what was worked out from visits, appeals, briefs and the pace may be out of date. It never
        // comes back to what it was, as a pace or a view may, with other things worked out in between.
        int edition;

        boolean hasShop(int shop) {
            return isWithin(shop, 0, shopCount - 1);
        }

        boolean hasBuyer(int buyer) {
            return isWithin(buyer, 0, buyerCount - 1);
        }

        int seenDay() {
            return fixedView == NONE ? now : fixedView;
        }

        boolean isKnown(int visit) {
            return isWithin(visit, 0, visitCount - 1) && isSeen(visits[visit]);
        }

        boolean isSeen(Visit visit) {
            return visit.told <= seenDay();
        }

        /** Numbers go by the day of telling, so the visits in the view are the first ones. */
        int knownVisits() {
            int known = visitCount;
            while (known > 0 && !isSeen(visits[known - 1])) {
                known--;
            }
            return known;
        }

        void lookFrom(int day) {
            fixedView = day == now ? NONE : day;
            for (int i = 0; i < visitCount; i++) {
                visits[i].seenForm = visits[i].form;
            }
            for (int i = 0; i < appealCount; i++) {
                turnIfSeen(i);
            }
            edition++;
        }

        void walkAt(int toldPace) {
            pace = toldPace;
            edition++;
        }

        private void turnIfSeen(int appeal) {
            if (appealTold[appeal] <= seenDay()) {
                visits[appealVisit[appeal]].seenForm ^= 1 << appealItem[appeal];
            }
        }

        int toldOf(int buyer, int day) {
            int told = 0;
            for (int i = 0; i < visitCount; i++) {
                if (visits[i].buyer == buyer && visits[i].day == day) {
                    told++;
                }
            }
            return told;
        }

        void keepVisit(Visit visit) {
            int at = visitCount;
            while (at > 0 && isLater(byTime[at - 1], visit)) {
                byTime[at] = byTime[at - 1];
                at--;
            }
            byTime[at] = visit;
            visits[visitCount] = visit;
            visitCount++;
            edition++;
        }

        /** The second has the greater number: with the same day and minute the first is not later. */
        private static boolean isLater(Visit first, Visit second) {
            if (first.day != second.day) {
                return first.day > second.day;
            }
            return first.minute > second.minute;
        }

        void keepAppeal(Visit visit, int item) {
            appealVisit[appealCount] = visit.number;
            appealItem[appealCount] = item;
            appealTold[appealCount] = now;
            turnIfSeen(appealCount);
            appealCount++;
            edition++;
        }

        void keepBrief(Brief brief) {
            briefs[briefCount] = brief;
            briefCount++;
            edition++;
        }

        /** The number of the brief in the view by which a visit is scored. */
        int briefFor(Visit visit) {
            int chain = shops[visit.shop].chain;
            int best = NONE;
            for (int i = 0; i < briefCount; i++) {
                Brief b = briefs[i];
                boolean fits = b.chain == chain && b.from <= visit.day && b.told <= seenDay();
                if (fits && (best == NONE || b.from >= briefs[best].from)) {
                    best = i;
                }
            }
            return best;
        }

        /** The latest visit of a shop in the view, or null. */
        Visit latestOf(int shop) {
            for (int i = visitCount - 1; i >= 0; i--) {
                if (byTime[i].shop == shop && isSeen(byTime[i])) {
                    return byTime[i];
                }
            }
            return null;
        }

        int wayFromHome(int buyer, int shop) {
            return homes[buyer].wayTo(shops[shop].place);
        }

        boolean mayGo(int buyer, int shop, int day) {
            if (wayFromHome(buyer, shop) > reach) {
                return false;
            }
            for (int i = 0; i < visitCount; i++) {
                Visit v = visits[i];
                if (v.buyer == buyer && isSeen(v) && isTooNear(v, shop, day)) {
                    return false;
                }
            }
            return true;
        }

        private boolean isTooNear(Visit visit, int shop, int day) {
            int between = Math.abs(visit.day - day);
            if (visit.shop == shop && between < restDays) {
                return true;
            }
            return shops[visit.shop].chain == shops[shop].chain && between < restDays / 4;
        }
    }

    /** The signs that were fed, and the token at which their reading stands. */
    private static final class Tape {
        final byte[] signs = new byte[MOST_SIGNS];
        int length;
        int place;
        int kind;
        int number;
        long word;
        private int next;

        void addBytes(long eight) {
            for (int shift = 56; shift >= 0; shift -= 8) {
                int sign = (int) (eight >>> shift) & 255;
                boolean isSign = sign == 10 || isWithin(sign, 32, 126);
                if (isSign && length < MOST_SIGNS) {
                    signs[length] = (byte) sign;
                    length++;
                }
            }
        }

        void rewind() {
            next = 0;
            step();
        }

        void step() {
            while (next < length && isBlank(signs[next])) {
                next++;
            }
            place = next;
            if (place >= length) {
                kind = END;
            } else if (isLetter(signs[place])) {
                stepWord();
            } else if (isDigit(signs[place])) {
                stepNumber();
            } else {
                kind = kindOfSign(signs[place]);
                next++;
            }
        }

        private void stepWord() {
            word = 0;
            while (next < length && isLetter(signs[next])) {
                word = word << 8 | signs[next];
                next++;
            }
            kind = next - place > LONGEST_WORD ? NO_TOKEN : kindOfWord();
        }

        private void stepNumber() {
            number = 0;
            while (next < length && isDigit(signs[next])) {
                number = number * 10 + (signs[next] - '0');
                next++;
            }
            kind = next - place > LONGEST_NUMBER ? NO_TOKEN : NUMBER;
        }

        private static boolean isBlank(int sign) {
            return sign == 10 || sign == 32;
        }

        private static boolean isLetter(int sign) {
            return sign >= 'a' && sign <= 'z';
        }

        private static boolean isDigit(int sign) {
            return sign >= '0' && sign <= '9';
        }

        private static int kindOfSign(int sign) {
            switch (sign) {
                case '(': return OPEN;
                case ')': return CLOSE;
                case '<': return LESS;
                case '=': return SAME;
                case '+': return PLUS;
                case '-': return MINUS;
                case '*': return TIMES;
                case ';': return SEMICOLON;
                default: return NO_TOKEN;
            }
        }

        private int kindOfWord() {
            for (int i = 0; i < WORDS.length; i++) {
                if (WORDS[i] == word) {
                    return LET + i;
                }
            }
            return NAME;
        }
    }

    /** Reads a brief from the tape into code that has what is worked on ahead of what is done with it. */
    private static final class Reader {
        private final Tape tape;
        private final long[] names = new long[MOST_NAMES];
        private final int[] code = new int[MOST_SIGNS];
        private int nameCount;
        private int codeLength;
        private int fault;

        Reader(Tape tape) {
            this.tape = tape;
        }

        int[] codeRead() {
            return Arrays.copyOf(code, codeLength);
        }

        /** The fault, 0 if there is none. */
        int readBrief() {
            fault = 0;
            nameCount = 0;
            codeLength = 0;
            tape.rewind();
            for (int line = 0; line <= MOST_LINES && fault == 0 && tape.kind != END; line++) {
                int kind = tape.kind;
                if (kind != LET && kind != ADD && kind != MUST && kind != BONUS) {
                    fail(CANNOT_STAND);
                } else if (line >= MOST_LINES) {
                    fail(TOO_MANY);
                } else if (kind == LET) {
                    tape.step();
                    readLet();
                } else if (kind == BONUS) {
                    tape.step();
                    readBonus();
                } else {
                    tape.step();
                    readAddOrMust(kind);
                }
            }
            return fault;
        }

        private void readAddOrMust(int kind) {
            readLevel(TESTS, 0);
            if (kind == ADD) {
                pass(WHEN);
                readLevel(TESTS, 0);
            }
            endLine(kind, 0);
        }

        private void readLet() {
            if (tape.kind != NAME) {
                fail(CANNOT_STAND);
            } else if (nameIndex() != NONE) {
                fail(TOLD_ALREADY);
            } else if (nameCount >= MOST_NAMES) {
                fail(TOO_MANY);
            } else {
                long name = tape.word;
                tape.step();
                pass(SAME);
                readLevel(TESTS, 0);
                endLine(LET, nameCount);
                names[nameCount] = name;
                nameCount++;
            }
        }

        private void readBonus() {
            if (tape.kind != NUMBER) {
                fail(CANNOT_STAND);
                return;
            }
            int money = tape.number;
            tape.step();
            pass(WHEN);
            readLevel(TESTS, 0);
            endLine(BONUS, money);
        }

        private void endLine(int kind, int number) {
            pass(SEMICOLON);
            write(kind, number);
        }

        /** From the left: each sign or word of this level joins what tighter levels have read. */
        private void readLevel(int level, int depth) {
            if (level >= PART) {
                readPart(depth);
                return;
            }
            readLevel(level + 1, depth);
            int most = level == TEST ? 1 : MOST_SIGNS;
            for (int i = 0; i < most && fault == 0 && levelOf(tape.kind) == level; i++) {
                int kind = tape.kind;
                tape.step();
                readLevel(level + 1, depth);
                write(kind, 0);
            }
        }

        private static int levelOf(int kind) {
            switch (kind) {
                case AND:
                case OR: return TESTS;
                case LESS:
                case SAME: return TEST;
                case PLUS:
                case MINUS: return SUM;
                case TIMES: return TERM;
                default: return PART;
            }
        }

        private void readPart(int depth) {
            if (fault != 0) {
                return;
            }
            int kind = tape.kind;
            if (!canStartPart(kind)) {
                fail(CANNOT_STAND);
            } else if (kind == NAME && nameIndex() == NONE) {
                fail(NOT_TOLD);
            } else if (depth >= MOST_DEPTH) {
                fail(TOO_MANY);
            } else if (kind == NOT) {
                tape.step();
                readPart(depth + 1);
                write(NOT, 0);
            } else if (kind == OPEN) {
                tape.step();
                readLevel(TESTS, depth + 1);
                pass(CLOSE);
            } else if (kind == ITEM) {
                tape.step();
                readItem();
            } else {
                write(kind, kind == NUMBER ? tape.number : kind == NAME ? nameIndex() : 0);
                tape.step();
            }
        }

        private void readItem() {
            if (tape.kind != NUMBER) {
                fail(CANNOT_STAND);
            } else if (tape.number >= ITEMS) {
                fail(WRONG_NUMBER);
            } else {
                write(ITEM, tape.number);
                tape.step();
            }
        }

        private static boolean canStartPart(int kind) {
            return kind == NUMBER || kind == NAME || kind == OPEN || isWithin(kind, ITEM, NOT);
        }

        private int nameIndex() {
            for (int i = 0; i < nameCount; i++) {
                if (names[i] == tape.word) {
                    return i;
                }
            }
            return NONE;
        }

        private void pass(int kind) {
            if (fault != 0) {
                return;
            }
            if (tape.kind == kind) {
                tape.step();
            } else {
                fail(CANNOT_STAND);
            }
        }

        private void fail(int kind) {
            if (fault == 0) {
                fault = kind + 16 * tape.place;
            }
        }

        private void write(int kind, int number) {
            if (codeLength < MOST_SIGNS) {
                code[codeLength] = number << CODE_SHIFT | kind;
                codeLength++;
            }
        }
    }

    /** Works briefs on visits. */
    private static final class Scorer {
        // Four for each depth and the first half of an add line would do.
        private static final int MOST_STACK = 32;

        private final Book book;
        private final int[] stack = new int[MOST_STACK];
        private final int[] names = new int[MOST_NAMES];
        private final int[] lastScore = new int[MOST_SHOPS];
        private int top;
        private int total;
        private int money;
        private boolean hasMoney;
        private boolean hasFailed;
        private int edition;

        Scorer(Book book) {
            this.book = book;
        }

        void refresh() {
            if (edition == book.edition) {
                return;
            }
            edition = book.edition;
            Arrays.fill(lastScore, 0);
            for (int i = 0; i < book.visitCount; i++) {
                if (book.isSeen(book.byTime[i])) {
                    scoreVisit(book.byTime[i]);
                }
            }
        }

        private void scoreVisit(Visit visit) {
            visit.before = lastScore[visit.shop];
            visit.brief = book.briefFor(visit);
            work(visit, visit.seenForm);
            visit.score = hasFailed ? 0 : Math.max(0, Math.min(MOST_SCORE, total));
            visit.bonus = hasFailed ? 0 : money;
            lastScore[visit.shop] = visit.score;
        }

        int bonusWith(Visit visit, int form) {
            work(visit, form);
            return hasFailed ? 0 : money;
        }

        private void work(Visit visit, int form) {
            top = 0;
            total = 0;
            money = 0;
            hasMoney = false;
            hasFailed = false;
            if (!isWithin(visit.brief, 0, book.briefCount - 1)) {
                return;
            }
            int[] code = book.briefs[visit.brief].code;
            for (int i = 0; i < code.length && !hasFailed; i++) {
                doStep(code[i] & CODE_MASK, code[i] >> CODE_SHIFT, visit, form);
            }
        }

        private void doStep(int kind, int number, Visit visit, int form) {
            switch (kind) {
                case NUMBER: push(number); break;
                case NAME: push(isWithin(number, 0, MOST_NAMES - 1) ? names[number] : 0); break;
                case ITEM: push(form >> number & 1); break;
                case ALL: push(Integer.bitCount(form)); break;
                case MINUTES: push(visit.minutes); break;
                case HOUR: push(visit.minute / 60); break;
                case RECEIPT: push(visit.receipt == NONE ? 0 : 1); break;
                case WEEK: push(visit.inWeek() % 53); break;
                case BEFORE: push(visit.before); break;
                case NOT: push(pop() == 0 ? 1 : 0); break;
                case LET:
                case ADD:
                case MUST:
                case BONUS: endLine(kind, number); break;
                default: joinTwo(kind); break;
            }
        }

        private void endLine(int kind, int number) {
            int last = pop();
            if (kind == LET) {
                if (isWithin(number, 0, MOST_NAMES - 1)) {
                    names[number] = last;
                }
            } else if (kind == ADD) {
                int added = pop();
                total += last != 0 ? added : 0;
            } else if (kind == MUST) {
                hasFailed = last == 0;
            } else if (last != 0 && !hasMoney) {
                hasMoney = true;
                money = number;
            }
        }

        private void joinTwo(int kind) {
            int right = pop();
            int left = pop();
            switch (kind) {
                case PLUS: push(left + right); break;
                case MINUS: push(left - right); break;
                case TIMES: push(left * right); break;
                case LESS: push(left < right ? 1 : 0); break;
                case SAME: push(left == right ? 1 : 0); break;
                case AND: push(left != 0 && right != 0 ? 1 : 0); break;
                default: push(left != 0 || right != 0 ? 1 : 0); break;
            }
        }

        private void push(int value) {
            if (top < MOST_STACK) {
                stack[top] = value;
                top++;
            }
        }

        private int pop() {
            if (top <= 0) {
                return 0;
            }
            top--;
            return stack[top];
        }
    }

    /**
     * Which visits can have been. That one visit can be behind another passes on to a third (the way is
     * never longer than by a place between), so the most that can be left are a longest row of visits.
     */
    private static final class Truth {
        int counting;
        int falseAlone;
        int fewestOfAll;
        private final Book book;
        private final Visit[] group = new Visit[MOST_A_DAY];
        private final int[] upTo = new int[MOST_A_DAY];
        private final int[] downFrom = new int[MOST_A_DAY];
        private final boolean[] isOut = new boolean[MOST_A_DAY];
        private int size;
        private int edition;

        Truth(Book book) {
            this.book = book;
        }

        void refresh() {
            if (edition == book.edition) {
                return;
            }
            edition = book.edition;
            judgeAlone();
            fewestOfAll = 0;
            for (int i = 0; i < book.visitCount; i++) {
                Visit v = book.byTime[i];
                if (book.isSeen(v) && v.state == UNJUDGED) {
                    gather(i, v.buyer, v.day);
                    judgeGroup();
                }
            }
            countThem();
        }

        int fewestOf(int buyer, int day) {
            gather(0, buyer, day);
            return size - longestUp();
        }

        /** The i-th of the first set: each by its number is let go if as long a row is left without it. */
        int falseAt(int buyer, int day, int i) {
            gather(0, buyer, day);
            int longest = longestUp();
            int found = 0;
            int last = NONE;
            for (int n = 0; n < size; n++) {
                int at = nextByNumber(last);
                if (at == NONE) {
                    return NONE;
                }
                last = group[at].number;
                isOut[at] = true;
                if (longestUp() < longest) {
                    isOut[at] = false;
                } else if (found == i) {
                    return last;
                } else {
                    found++;
                }
            }
            return NONE;
        }

        private int nextByNumber(int last) {
            int best = NONE;
            for (int k = 0; k < size; k++) {
                int number = group[k].number;
                if (number > last && (best == NONE || number < group[best].number)) {
                    best = k;
                }
            }
            return best;
        }

        private void judgeAlone() {
            for (int i = 0; i < book.visitCount; i++) {
                Visit v = book.visits[i];
                v.state = canBeAlone(v) ? UNJUDGED : FALSE_ALONE;
            }
        }

        private boolean canBeAlone(Visit visit) {
            Shop shop = book.shops[visit.shop];
            if (visit.minute < shop.opens || visit.endMinute() - 1 > shop.closes) {
                return false;
            }
            if (visit.receipt != NONE && !isWithin(visit.receipt, visit.minute, visit.endMinute() - 1)) {
                return false;
            }
            return (visit.seenForm & 1) == 1 || visit.seenForm == 0;
        }

        private void countThem() {
            counting = 0;
            falseAlone = 0;
            int known = book.knownVisits();
            for (int i = 0; i < known; i++) {
                Visit v = book.visits[i];
                counting += v.counts() ? 1 : 0;
                falseAlone += v.state == FALSE_ALONE ? 1 : 0;
            }
        }

        /** Those of a buyer and a day in the view that can be alone, by time; none stands ahead of the start. */
        private void gather(int start, int buyer, int day) {
            size = 0;
            for (int i = start; i < book.visitCount && book.byTime[i].day <= day; i++) {
                Visit v = book.byTime[i];
                boolean belongs = v.day == day && v.buyer == buyer && book.isSeen(v) && v.state != FALSE_ALONE;
                if (belongs && size < MOST_A_DAY) {
                    group[size] = v;
                    isOut[size] = false;
                    size++;
                }
            }
        }

        private void judgeGroup() {
            int longest = longestUp();
            workDown();
            for (int k = 0; k < size; k++) {
                if (upTo[k] + downFrom[k] - 1 < longest) {
                    group[k].state = SURE;
                } else {
                    group[k].state = isNeeded(k, longest) ? CAN_BE : MAY_BE;
                }
            }
            fewestOfAll += size - longest;
        }

        /** Whether each longest row has it: no other one stands at its place in such a row. */
        private boolean isNeeded(int at, int longest) {
            for (int k = 0; k < size; k++) {
                if (k != at && upTo[k] == upTo[at] && upTo[k] + downFrom[k] - 1 == longest) {
                    return false;
                }
            }
            return true;
        }

        private int longestUp() {
            int longest = 0;
            for (int k = 0; k < size; k++) {
                upTo[k] = isOut[k] ? 0 : 1;
                for (int j = 0; j < k && !isOut[k]; j++) {
                    if (!isOut[j] && upTo[j] >= upTo[k] && canBoth(group[j], group[k])) {
                        upTo[k] = upTo[j] + 1;
                    }
                }
                longest = Math.max(longest, upTo[k]);
            }
            return longest;
        }

        private void workDown() {
            for (int k = size - 1; k >= 0; k--) {
                downFrom[k] = 1;
                for (int j = k + 1; j < size; j++) {
                    if (downFrom[j] >= downFrom[k] && canBoth(group[k], group[j])) {
                        downFrom[k] = downFrom[j] + 1;
                    }
                }
            }
        }

        private boolean canBoth(Visit earlier, Visit later) {
            int way = book.shops[earlier.shop].place.wayTo(book.shops[later.shop].place);
            return later.minute >= earlier.endMinute() + book.pace * way;
        }
    }

    /** How strict buyers are, and what shops have behind that. */
    private static final class Means {
        private final Book book;
        private final Truth truth;
        private final Scorer scorer;
        private final int[] leanSum = new int[MOST_BUYERS];
        private final int[] leanCount = new int[MOST_BUYERS];
        private final int[] pairs = new int[MOST_BUYERS * MOST_BUYERS];
        private final int[] fairSum = new int[MOST_SHOPS];
        private final int[] visitSum = new int[MOST_SHOPS];
        private final int[] ranked = new int[MOST_SHOPS];
        private final int[] rows = new int[MOST_SHOPS];
        private int rankedCount;
        private int edition;

        Means(Book book, Truth truth, Scorer scorer) {
            this.book = book;
            this.truth = truth;
            this.scorer = scorer;
        }

        void refresh() {
            if (edition == book.edition) {
                return;
            }
            edition = book.edition;
            truth.refresh();
            scorer.refresh();
            Arrays.fill(leanSum, 0);
            Arrays.fill(leanCount, 0);
            Arrays.fill(pairs, 0);
            for (int i = 0; i < book.visitCount; i++) {
                if (isTaken(book.byTime[i])) {
                    meetLater(i);
                }
            }
        }

        private boolean isTaken(Visit visit) {
            return book.isSeen(visit) && visit.counts();
        }

        private void meetLater(int at) {
            Visit one = book.byTime[at];
            int week = one.inWeek();
            for (int j = at + 1; j < book.visitCount && book.byTime[j].inWeek() == week; j++) {
                Visit other = book.byTime[j];
                if (other.shop == one.shop && other.buyer != one.buyer && isTaken(other)) {
                    meet(one, other);
                    meet(other, one);
                }
            }
        }

        private void meet(Visit own, Visit other) {
            leanSum[own.buyer] += own.score - other.score;
            leanCount[own.buyer]++;
            pairs[own.buyer * MOST_BUYERS + other.buyer]++;
        }

        int meetingsOf(int a, int b) {
            return pairs[a * MOST_BUYERS + b];
        }

        boolean hasLean(int buyer) {
            return leanCount[buyer] >= 2;
        }

        int leanOf(int buyer) {
            return leanCount[buyer] >= 2 ? leanSum[buyer] / leanCount[buyer] : 0;
        }

        int fairScore(Visit visit) {
            return visit.score - leanOf(visit.buyer);
        }

        void addDays(int from, int to) {
            Arrays.fill(fairSum, 0);
            Arrays.fill(visitSum, 0);
            for (int i = 0; i < book.visitCount; i++) {
                Visit v = book.visits[i];
                if (isWithin(v.day, from, to) && isTaken(v)) {
                    fairSum[v.shop] += fairScore(v);
                    visitSum[v.shop]++;
                }
            }
        }

        boolean isMet(int shop) {
            return visitSum[shop] > 0;
        }

        int meanOf(int shop) {
            return visitSum[shop] > 0 ? 100 * fairSum[shop] / visitSum[shop] : 0;
        }

        int doubtOf(int shop, int spread) {
            return visitSum[shop] > 0 ? 100 * spread / visitSum[shop] : 0;
        }

        boolean isLess(int a, int b, int spread) {
            return meanOf(b) - meanOf(a) > doubtOf(a, spread) + doubtOf(b, spread);
        }

        /** Puts the shops of a chain that have a mean in a row by it: how many they are. */
        int rankChain(int chain) {
            rankedCount = 0;
            for (int s = 0; s < book.shopCount; s++) {
                if (book.shops[s].chain == chain && isMet(s)) {
                    rankShop(s);
                }
            }
            return rankedCount;
        }

        private void rankShop(int shop) {
            int at = rankedCount;
            while (at > 0 && meanOf(ranked[at - 1]) > meanOf(shop)) {
                ranked[at] = ranked[at - 1];
                at--;
            }
            ranked[at] = shop;
            rankedCount++;
        }

        int longestRow(int spread) {
            int longest = 0;
            for (int k = 0; k < rankedCount; k++) {
                rows[k] = 1;
                for (int j = 0; j < k; j++) {
                    if (rows[j] >= rows[k] && isLess(ranked[j], ranked[k], spread)) {
                        rows[k] = rows[j] + 1;
                    }
                }
                longest = Math.max(longest, rows[k]);
            }
            return longest;
        }

        int leadBits(int spread) {
            int bits = 0;
            for (int k = 0; k < rankedCount; k++) {
                if (!isBeaten(k, spread)) {
                    bits |= 1 << ranked[k];
                }
            }
            return bits;
        }

        private boolean isBeaten(int at, int spread) {
            for (int j = at + 1; j < rankedCount; j++) {
                if (isLess(ranked[at], ranked[j], spread)) {
                    return true;
                }
            }
            return false;
        }
    }

    /**
     * Gives buyers to shops. A price holds the way in its upper bits and below them three bits for the buyer
     * of each shop, the first shop's the highest: so the least price is the least way and then the first answer.
     */
    private static final class Giver {
        private static final long NO_PRICE = 1L << 60;
        private static final int BUYER_BITS = 3;
        private static final int WAY_SHIFT = BUYER_BITS * MOST_GIVEN;

        private final Book book;
        private final long[] best = new long[1 << MOST_GIVEN];
        private final long[] price = new long[MOST_GIVEN];
        private final int[] shops = new int[MOST_GIVEN];
        private int size;

        Giver(Book book) {
            this.book = book;
        }

        /** Whether the shops of a set, which are there and not too many, can all be given. */
        boolean give(int set, int day) {
            listShops(set);
            Arrays.fill(best, NO_PRICE);
            best[0] = 0;
            for (int b = 0; b < book.buyerCount; b++) {
                setPrices(b, day);
                sendOnce();
                sendOnce();
            }
            return best[(1 << size) - 1] < NO_PRICE;
        }

        int wholeWay() {
            return (int) (best[(1 << size) - 1] >> WAY_SHIFT);
        }

        int buyerFor(int shop) {
            for (int k = 0; k < size; k++) {
                if (shops[k] == shop) {
                    return (int) (best[(1 << size) - 1] >> buyerShift(k)) & MOST_BUYERS - 1;
                }
            }
            return NONE;
        }

        private void listShops(int set) {
            size = 0;
            for (int s = 0; s < book.shopCount; s++) {
                if ((set >> s & 1) == 1 && size < MOST_GIVEN) {
                    shops[size] = s;
                    size++;
                }
            }
        }

        private static int buyerShift(int k) {
            return BUYER_BITS * (MOST_GIVEN - 1 - k);
        }

        private void setPrices(int buyer, int day) {
            for (int k = 0; k < size; k++) {
                price[k] = NO_PRICE;
                if (book.mayGo(buyer, shops[k], day)) {
                    long way = book.wayFromHome(buyer, shops[k]);
                    price[k] = (way << WAY_SHIFT) + ((long) buyer << buyerShift(k));
                }
            }
        }

        /** From the fullest set down: a smaller one then stands as it was without this sending. */
        private void sendOnce() {
            for (int done = (1 << size) - 1; done > 0; done--) {
                for (int k = 0; k < size; k++) {
                    if ((done >> k & 1) == 1) {
                        best[done] = Math.min(best[done], best[done ^ 1 << k] + price[k]);
                    }
                }
            }
        }
    }
}
