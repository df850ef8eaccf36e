import java.util.NoSuchElementException;

/**
 * A cook's book read as far as its texts tell: THINGS, PAGES, LAWS, DISHES, BOOKS, DAYS.
 *
 * <p>Every row is made in a constructor and used again, so that a call makes no object.
 */
public final class PotBook {
    public static final int NONE = -1;
    public static final int HIDDEN = -10000000;

    private static final int NO_SORT = -2;
    private static final int PAGE_SORT = 0;
    private static final int LAW_SORT = 1;

    /** What the TAPE shows behind its last byte. */
    private static final int END = -1;

    private static final int TAPE_LONG = 120;
    private static final int THINGS = 12;
    private static final int SIZES = 6;
    private static final int PAGES = 16;
    private static final int PAGE_THINGS = 8;
    private static final int PAGE_ACTS = 8;
    private static final int ACTS_TOLD_OUT = 72;
    private static final int ACT_LETTERS = 4;
    private static final int GREATEST_PARTS = 99;
    private static final int LAWS = 6;
    private static final int LAW_LETTERS = 9;
    private static final int HOLDS = 20;
    private static final int TRIALS = 20;
    private static final int DISHES = 5000;
    private static final int PAIRED_DISHES = 300;
    private static final int BOOKS = 12;
    private static final int WORDS = 8;
    private static final int DAYS = 10;
    private static final int MENU_PAGES = 5;
    private static final int MENU_MESSES = 9;
    private static final int WRITERS = 6;
    private static final int MINUTES = 200;
    private static final int WORTH_BOUND = 1000000;
    private static final int TRIAL_BOUND = 9999;

    private final Tape tape;
    private final Pantry pantry;
    private final Pages pages;
    private final Laws laws;
    private final LawReader lawReader;
    private final Pot pot;
    private final Taster taster;
    private final Kin kin;
    private final Copies copies;
    private final Account account;
    private final Menus menus;

    public PotBook() {
        tape = new Tape();
        pantry = new Pantry();
        pages = new Pages(tape, pantry);
        laws = new Laws();
        lawReader = new LawReader(tape, laws);
        pot = new Pot(pages, pantry, laws);
        taster = new Taster(pages, pantry, laws, pot);
        kin = new Kin(pages);
        copies = new Copies();
        account = new Account(pages, pantry, pot);
        menus = new Menus(pages, pot, account);
    }

    // ---- the TAPE and what it is told as

    public int feed(int a, int b, int c, int d, int e) {
        int more = signsIn(a) + signsIn(b) + signsIn(c) + signsIn(d) + signsIn(e);
        if (tape.length + more > TAPE_LONG) {
            return NONE;
        }
        tape.put(a);
        tape.put(b);
        tape.put(c);
        tape.put(d);
        tape.put(e);
        return tape.length;
    }

    public boolean end(int n) {
        if (n < 0 || n > tape.length) {
            return false;
        }
        tape.length = n;
        return true;
    }

    public int fault(int sort) {
        if (sort != PAGE_SORT && sort != LAW_SORT) {
            return NO_SORT;
        }
        boolean isOne = sort == PAGE_SORT ? pages.readsTape() : lawReader.readsTape();
        return isOne ? NONE : tape.fault;
    }

    public int text(int sort) {
        if (sort == PAGE_SORT && pages.number < PAGES && pages.readsTape()) {
            tape.length = 0;
            pages.number++;
            kin.join(pages.number - 1);
            return pages.number - 1;
        }
        if (sort == LAW_SORT && laws.number < LAWS && lawReader.readsTape()) {
            tape.length = 0;
            laws.number++;
            return laws.number - 1;
        }
        return NONE;
    }

    // ---- THINGS

    public int thing(int wet, int sweet, int firm, boolean flesh, int from, int to) {
        if (!isWithin(wet, 0, 99) || !isWithin(sweet, 0, 99) || !isWithin(firm, 0, 99)) {
            return NONE;
        }
        if (!isWithin(from, 1, 12) || !isWithin(to, 1, 12) || pantry.number >= THINGS) {
            return NONE;
        }
        pantry.put(wet, sweet, firm, monthsBetween(from, to));
        if (flesh) {
            pantry.fleshy |= 1 << (pantry.number - 1);
        }
        return pantry.number - 1;
    }

    public int sized(int thing, int year, int size) {
        if (!pantry.has(thing) || !isYear(year) || !isWithin(size, 1, 999)) {
            return NONE;
        }
        return pantry.tellSize(thing, year, size);
    }

    public int size(int thing, int year) {
        return pantry.has(thing) && isYear(year) ? pantry.bigIn(thing, year) : NONE;
    }

    // ---- PAGES and their DISHES

    public int page(int page, int what) throws NoSuchElementException {
        if (!pages.has(page) || !isWithin(what, 0, 3)) {
            throw new NoSuchElementException("no such PAGE, or nothing such of it");
        }
        switch (what) {
            case 0:
                return pages.bits[page];
            case 1:
                return pages.actsLong[page];
            case 2:
                return pages.left[page];
            default:
                return pages.writer[page];
        }
    }

    public boolean most(int v) {
        if (!isWithin(v, 1, 20)) {
            return false;
        }
        pot.tellMost(v);
        return true;
    }

    public int hold(int page, int law, int least, int most) {
        if (!pages.has(page) || !laws.has(law) || most < least) {
            return NONE;
        }
        if (!isWithin(least, -WORTH_BOUND, WORTH_BOUND) || !isWithin(most, -WORTH_BOUND, WORTH_BOUND)) {
            return NONE;
        }
        return pot.tellHold(page, law, least, most);
    }

    public int dishes(int page) {
        return laid(page);
    }

    public int dish(int page, int i, int thing) {
        if (!pantry.has(thing) || !shows(page, i)) {
            return NONE;
        }
        return pot.partsOf(thing);
    }

    public int span(int page, int thing, int what) {
        if (!isWithin(what, 0, 1) || !pages.has(page) || pages.placeOf(page, thing) == NONE) {
            return NONE;
        }
        return laid(page) > 0 ? taster.edge(pages.placeOf(page, thing), what) : NONE;
    }

    public int shared(int page) {
        return laid(page) > 0 ? taster.sameInAll(page) : NONE;
    }

    public int worth(int page, int i, int law) {
        return laws.has(law) && shows(page, i) ? laws.valueOf(law, pot.letters) : HIDDEN;
    }

    public int range(int page, int law, int what) {
        if (!laws.has(law) || !isWithin(what, 0, 1) || laid(page) <= 0) {
            return HIDDEN;
        }
        return taster.worthEdge(law, what);
    }

    public int weigh(int page) {
        return laid(page) > 0 ? taster.mostTelling(page) : NONE;
    }

    // ---- TRIALS

    public int trial(int law, int worth, boolean stood) {
        if (!laws.has(law) || !isWithin(worth, -TRIAL_BOUND, TRIAL_BOUND) || laws.trials >= TRIALS) {
            return NONE;
        }
        laws.tellTrial(law, worth, stood);
        return laws.trials;
    }

    public int stands(int page, int i, int law) {
        if (!laws.has(law) || !shows(page, i)) {
            return NONE;
        }
        return laws.verdict(law, laws.valueOf(law, pot.letters));
    }

    public int stand(int page, int law, int stood) {
        if (!laws.has(law) || !isWithin(stood, 0, 1) || laid(page) < 0) {
            return NONE;
        }
        return taster.judged(law, stood);
    }

    // ---- BOOKS

    public int book(int from) {
        if (from != NONE && !copies.has(from) || copies.number >= BOOKS) {
            return NONE;
        }
        return copies.put(from);
    }

    public boolean slip(int one, int other, int cost) {
        if (!isWord(one) || !isWord(other) || one == other || !isWithin(cost, 0, 99)) {
            return false;
        }
        copies.slips[one][other] = cost;
        return true;
    }

    public boolean reads(int book, int word) {
        if (!copies.has(book) || word != NONE && !isWord(word)) {
            return false;
        }
        copies.word[book] = word;
        return true;
    }

    public int cost(int word) {
        if (!isWord(word)) {
            return NONE;
        }
        copies.reckon();
        return copies.costs[0][word];
    }

    public long ways(int word) {
        if (!isWord(word)) {
            return NONE;
        }
        copies.reckon();
        return copies.paths[0][word];
    }

    public int first() {
        copies.reckon();
        return copies.cheapest();
    }

    public int could(int book) {
        if (!copies.has(book)) {
            return NONE;
        }
        copies.reckon();
        return copies.wordsOf(book);
    }

    // ---- DAYS and MENUS

    public int day(int month, boolean fish) {
        return isWithin(month, 1, 12) && account.number < DAYS ? account.put(month, fish) : NONE;
    }

    public boolean bought(int day, int thing, int amount) {
        if (!account.has(day) || !pantry.has(thing) || !isWithin(amount, 0, 999)) {
            return false;
        }
        account.stock[day][thing] = amount;
        return true;
    }

    public int may(int day, int page) {
        if (!account.has(day) || !pages.has(page)) {
            return NONE;
        }
        return account.isServed(day, page) ? 1 : 0;
    }

    public int menu(int day, int pages, int over, int what) {
        if (!isWithin(what, 0, 4) || !isAsked(day, pages, over)) {
            return NONE;
        }
        menus.layOut(day, pages, over, NONE);
        return menus.found[what];
    }

    public int messes(int day, int pages, int over, int i, int page) {
        if (i < 0 || !isAsked(day, pages, over)) {
            return NONE;
        }
        menus.layOut(day, pages, over, i);
        return i < menus.found[0] ? menus.messesOf(page) : NONE;
    }

    // ---- MONTHS and kin

    public int months(int page) {
        return pages.has(page) ? pages.monthsOf(page) : NONE;
    }

    public int far(int one, int other) {
        return pages.has(one) && pages.has(other) ? kin.apart[one][other] : NONE;
    }

    public int came(int page) {
        return pages.has(page) ? kin.parent[page] : NONE;
    }

    public int tree() {
        return kin.leastJoin();
    }

    // ---- WRITERS

    public boolean wrote(int page, int writer) {
        if (!pages.has(page) || !isWriter(writer)) {
            return false;
        }
        pages.writer[page] = writer;
        return true;
    }

    public int leaves(int writer, int thing, int what) {
        if (!isWriter(writer) || !pantry.has(thing) || !isWithin(what, 0, 1)) {
            return NONE;
        }
        return pages.timesLeft(writer, thing, what == 0);
    }

    public int twice(int writer) {
        return isWriter(writer) ? pages.unlikePairs(writer) : NONE;
    }

    // ---- what a DISH weighs and how long it takes

    public int weight(int page, int i, int year) {
        return isYear(year) && shows(page, i) ? taster.heft(year) : NONE;
    }

    public int serves(int page, int year, int each, int what) {
        if (!isYear(year) || !isWithin(each, 1, 9999) || !isWithin(what, 0, 1) || laid(page) <= 0) {
            return NONE;
        }
        return taster.heftEdge(year, what) / each;
    }

    public int boil(int page, int i, int pot, int fire) {
        if (!isWithin(pot, 1, 99) || !isWithin(fire, 1, 99) || !shows(page, i)) {
            return NONE;
        }
        return taster.minutes(pot, fire);
    }

    // ---- where a PAGE came from

    public int changed(int page, int what) {
        if (!pages.has(page) || !isWithin(what, 0, 3) || !pages.has(kin.parent[page])) {
            return NONE;
        }
        return kin.change(page, kin.parent[page], what);
    }

    public int line(int page) {
        return pages.has(page) ? kin.stepsUp(page) : NONE;
    }

    public int stem(int one, int other) {
        return pages.has(one) && pages.has(other) ? kin.meeting(one, other) : NONE;
    }

    public int guess(int page, int thing) {
        return pages.has(page) && pantry.has(thing) ? pages.meanTold(page, thing) : NONE;
    }

    public int nearest(int page) {
        return laid(page) > 0 ? taster.leastOff(page) : NONE;
    }

    // ---- what a DAY's buying lacks and leaves

    public int lacking(int day, int page, int i, int messes) {
        if (!account.has(day) || !isWithin(messes, 1, 99) || !shows(page, i)) {
            return NONE;
        }
        return account.tooFew(day, messes);
    }

    public int enough(int day, int page, int i) {
        return account.has(day) && shows(page, i) ? account.messesFrom(day) : NONE;
    }

    public int wasted(int day, int pages, int over, int i) {
        if (i < 0 || !isAsked(day, pages, over)) {
            return NONE;
        }
        menus.layOut(day, pages, over, i);
        return i < menus.found[0] ? menus.wantedWaste : NONE;
    }

    public int lean(int day, int pages, int over, int what) {
        if (!isWithin(what, 0, 2) || !isAsked(day, pages, over)) {
            return NONE;
        }
        menus.layOut(day, pages, over, NONE);
        return menus.found[0] > 0 ? menus.found[Menus.LEAN_MANY + what] : NONE;
    }

    // ---- LAWS and THINGS held against one another

    public int softer(int page, int one, int other) {
        if (!laws.has(one) || !laws.has(other)) {
            return HIDDEN;
        }
        int many = laid(page);
        return many >= 0 && many <= PAIRED_DISHES ? taster.lead(one, other) : HIDDEN;
    }

    public int swapped(int page, int one, int other) {
        if (one == other || !pages.has(page)) {
            return NONE;
        }
        int here = pages.placeOf(page, one);
        int there = pages.placeOf(page, other);
        return here != NONE && there != NONE && laid(page) >= 0 ? taster.turnedAbout(here, there) : NONE;
    }

    public int count(int what) {
        switch (what) {
            case 0:
                return pages.number;
            case 1:
                return laws.number;
            case 2:
                return pantry.number;
            case 3:
                return pot.holds;
            case 4:
                return laws.trials;
            case 5:
                return copies.number;
            case 6:
                return account.number;
            case 7:
                return tape.length;
            case 8:
                return pot.mostParts;
            default:
                return NONE;
        }
    }

    // ---- what many calls ask first

    /** How many DISHES there are (NONE: no such PAGE, not told); they stand in the pot then. */
    private int laid(int page) {
        return pages.has(page) ? pot.lay(page) : NONE;
    }

    /** Whether there is such a DISH; its PARTS and letters stand in the pot then. */
    private boolean shows(int page, int i) {
        if (i < 0 || i >= laid(page)) {
            return false;
        }
        pot.show(i);
        return true;
    }

    private boolean isAsked(int day, int bits, int over) {
        if (!account.has(day) || !isWithin(over, 0, 99)) {
            return false;
        }
        return bits > 0 && bits < 1 << pages.number && Integer.bitCount(bits) <= MENU_PAGES;
    }

    private static boolean isWithin(int v, int least, int most) {
        return v >= least && v <= most;
    }

    private static boolean isYear(int year) {
        return isWithin(year, 1200, 1999);
    }

    private static boolean isWord(int word) {
        return isWithin(word, 0, WORDS - 1);
    }

    private static boolean isWriter(int writer) {
        return isWithin(writer, 0, WRITERS - 1);
    }

    private static boolean isDigit(int sign) {
        return sign >= '0' && sign <= '9';
    }

    private static boolean holdsBit(int bits, int k) {
        return (bits >> k & 1) != 0;
    }

    /** How many bytes of a number are not 0. */
    private static int signsIn(int four) {
        int many = 0;
        for (int shift = 24; shift >= 0; shift -= 8) {
            if ((four >> shift & 255) != 0) {
                many++;
            }
        }
        return many;
    }

    private static int monthsBetween(int from, int to) {
        int bits = 0;
        for (int month = 1; month <= 12; month++) {
            boolean behind = month >= from;
            boolean ahead = month <= to;
            if (from <= to ? behind && ahead : behind || ahead) {
                bits |= 1 << (month - 1);
            }
        }
        return bits;
    }

    /** The bytes fed, and the place to which a reader has come in them. */
    private static final class Tape {
        private final int[] bytes = new int[TAPE_LONG];
        private int length;
        private int at;
        private int fault = NONE;

        void put(int four) {
            for (int shift = 24; shift >= 0; shift -= 8) {
                int sign = four >> shift & 255;
                if (sign != 0 && length < TAPE_LONG) {
                    bytes[length] = sign;
                    length++;
                }
            }
        }

        void begin() {
            at = 0;
            fault = NONE;
        }

        /** The next sign that is no blank. */
        int look() {
            for (int k = at; k < length && bytes[k] == ' '; k++) {
                at = k + 1;
            }
            return at < length ? bytes[at] : END;
        }

        boolean takes(int sign) {
            if (look() != sign || at >= length) {
                return false;
            }
            at++;
            return true;
        }

        void step() {
            if (at < length) {
                at++;
            }
        }

        /** A number of so many digits at most; NONE: it is wrong. */
        int readNumber(int digits) {
            int v = isDigit(look()) ? 0 : NONE;
            int end = Math.min(length, at + digits);
            while (at < end && isDigit(bytes[at])) {
                v = v * 10 + bytes[at] - '0';
                at++;
            }
            if (v == NONE || at < length && isDigit(bytes[at])) {
                fault = at;
                return NONE;
            }
            return v;
        }

        boolean wrongHere() {
            fault = at;
            return false;
        }

        /** A number can be out of bounds only once it is read, but it is wrong at its last digit. */
        boolean wrongBefore() {
            fault = at - 1;
            return false;
        }
    }

    /** THINGS. */
    private static final class Pantry {
        private static final int SIZE_UNTOLD = 10;

        private final int[] wet = new int[THINGS];
        private final int[] sweet = new int[THINGS];
        private final int[] firm = new int[THINGS];
        private final int[] months = new int[THINGS];
        private final int[] sizesTold = new int[THINGS];
        private final int[][] years = new int[THINGS][SIZES];
        private final int[][] bigs = new int[THINGS][SIZES];
        private int fleshy;
        private int number;

        boolean has(int thing) {
            return thing >= 0 && thing < number;
        }

        void put(int wetness, int sweetness, int firmness, int monthBits) {
            wet[number] = wetness;
            sweet[number] = sweetness;
            firm[number] = firmness;
            months[number] = monthBits;
            number++;
        }

        int tellSize(int thing, int year, int big) {
            int told = sizesTold[thing];
            if (told >= SIZES || told > 0 && year <= years[thing][told - 1]) {
                return NONE;
            }
            years[thing][told] = year;
            bigs[thing][told] = big;
            sizesTold[thing] = told + 1;
            return told + 1;
        }

        int bigIn(int thing, int year) {
            int told = sizesTold[thing];
            if (told == 0) {
                return SIZE_UNTOLD;
            }
            if (year <= years[thing][0]) {
                return bigs[thing][0];
            }
            for (int k = 1; k < told; k++) {
                if (year <= years[thing][k]) {
                    return bigBetween(thing, k, year);
                }
            }
            return bigs[thing][told - 1];
        }

        private int bigBetween(int thing, int later, int year) {
            int ahead = bigs[thing][later - 1];
            int gone = year - years[thing][later - 1];
            int distance = years[thing][later] - years[thing][later - 1];
            return distance > 0 ? ahead + (bigs[thing][later] - ahead) * gone / distance : ahead;
        }
    }

    /**
     * PAGES, and how the TAPE is read as one: into the row behind all that are told, so that
     * a FAULT needs no room of its own and changes nothing.
     */
    private static final class Pages {
        private final Tape tape;
        private final Pantry pantry;
        private final int[] thingsOn = new int[PAGES + 1];
        private final int[][] letter = new int[PAGES + 1][PAGE_THINGS];
        /** 0 where PARTS are LEFT OUT. */
        private final int[][] least = new int[PAGES + 1][PAGE_THINGS];
        private final int[][] greatest = new int[PAGES + 1][PAGE_THINGS];
        private final int[] bits = new int[PAGES + 1];
        private final int[] left = new int[PAGES + 1];
        private final int[][] acts = new int[PAGES + 1][ACTS_TOLD_OUT];
        private final int[] actsLong = new int[PAGES + 1];
        private final int[][] times = new int[PAGES + 1][ACT_LETTERS];
        private final int[] writer = new int[PAGES + 1];
        private int number;

        Pages(Tape tape, Pantry pantry) {
            this.tape = tape;
            this.pantry = pantry;
        }

        boolean has(int page) {
            return page >= 0 && page < number;
        }

        /** The place of a THING on a PAGE (NONE: it is not there). */
        int placeOf(int page, int thing) {
            for (int k = 0; k < thingsOn[page]; k++) {
                if (letter[page][k] == thing) {
                    return k;
                }
            }
            return NONE;
        }

        boolean readsTape() {
            clearRow();
            tape.begin();
            if (!readsThings()) {
                return false;
            }
            if (tape.takes(';')) {
                return readsActs();
            }
            return tape.look() == END || tape.wrongHere();
        }

        private void clearRow() {
            thingsOn[number] = 0;
            bits[number] = 0;
            left[number] = 0;
            actsLong[number] = 0;
            for (int act = 0; act < ACT_LETTERS; act++) {
                times[number][act] = 0;
            }
        }

        private boolean readsThings() {
            for (int k = 0; k < PAGE_THINGS; k++) {
                if (!readsThing()) {
                    return false;
                }
                if (!tape.takes(',')) {
                    return true;
                }
            }
            tape.look();
            return tape.wrongHere();
        }

        private boolean readsThing() {
            int thing = tape.look() - 'a';
            if (!pantry.has(thing) || holdsBit(bits[number], thing)) {
                return tape.wrongHere();
            }
            tape.step();
            int place = thingsOn[number];
            letter[number][place] = thing;
            least[number][place] = 0;
            greatest[number][place] = 0;
            thingsOn[number] = place + 1;
            bits[number] |= 1 << thing;
            if (isDigit(tape.look())) {
                return readsParts(place);
            }
            left[number] |= 1 << thing;
            return true;
        }

        private boolean readsParts(int place) {
            int low = tape.readNumber(2);
            if (low == NONE) {
                return false;
            }
            if (low == 0) {
                return tape.wrongBefore();
            }
            int high = low;
            if (tape.takes('-')) {
                high = tape.readNumber(2);
                if (high == NONE) {
                    return false;
                }
                if (high < low) {
                    return tape.wrongBefore();
                }
            }
            least[number][place] = low;
            greatest[number][place] = high;
            return true;
        }

        private boolean readsActs() {
            for (int k = 0; k < PAGE_ACTS; k++) {
                int sign = tape.look();
                if (sign == END && k > 0) {
                    return true;
                }
                int act = actOf(sign);
                if (act == NONE) {
                    return tape.wrongHere();
                }
                tape.step();
                int often = 1;
                if (isWithin(tape.look(), '1', '9')) {
                    often = tape.look() - '0';
                    tape.step();
                }
                putAct(act, often);
            }
            return tape.look() == END || tape.wrongHere();
        }

        private void putAct(int act, int often) {
            times[number][act] += often;
            for (int k = 0; k < often && actsLong[number] < ACTS_TOLD_OUT; k++) {
                acts[number][actsLong[number]] = act;
                actsLong[number]++;
            }
        }

        private static int actOf(int sign) {
            switch (sign) {
                case 'B':
                    return 0;
                case 'R':
                    return 1;
                case 'T':
                    return 2;
                case 'S':
                    return 3;
                default:
                    return NONE;
            }
        }

        int monthsOf(int page) {
            int months = (1 << 12) - 1;
            for (int k = 0; k < thingsOn[page]; k++) {
                months &= pantry.months[letter[page][k]];
            }
            return months;
        }

        int timesLeft(int who, int thing, boolean isLeft) {
            int many = 0;
            for (int page = 0; page < number; page++) {
                boolean there = writer[page] == who && holdsBit(bits[page], thing);
                if (there && holdsBit(left[page], thing) == isLeft) {
                    many++;
                }
            }
            return many;
        }

        int unlikePairs(int who) {
            int many = 0;
            for (int one = 0; one < number; one++) {
                for (int other = one + 1; other < number; other++) {
                    boolean ofOne = writer[one] == who && writer[other] == who;
                    if (ofOne && bits[one] == bits[other] && left[one] != left[other]) {
                        many++;
                    }
                }
            }
            return many;
        }

        /** The GUESS (NONE: none, or PARTS of it are not LEFT OUT there). */
        int meanTold(int page, int thing) {
            if (!holdsBit(left[page], thing)) {
                return NONE;
            }
            int many = 0;
            int all = 0;
            for (int other = 0; other < number; other++) {
                int place = placeOf(other, thing);
                if (place != NONE && writer[other] == writer[page] && least[other][place] > 0) {
                    many++;
                    all += (least[other][place] + greatest[other][place]) / 2;
                }
            }
            return many > 0 ? all / many : NONE;
        }
    }

    /** LAWS as steps over a stack, and the TRIALS by them. */
    private static final class Laws {
        private static final int STACK = 64;
        /** Steps below this are numbers. */
        private static final int LETTER = 10000;
        private static final int PLUS = 10100;
        private static final int MINUS = 10101;
        private static final int TIMES = 10102;
        private static final int BY = 10103;
        private static final int EQUAL = 10104;
        private static final int BELOW = 10105;
        private static final int ABOVE = 10106;
        private static final int AND = 10107;
        private static final int OR = 10108;
        private static final int NOT = 10109;
        /** If what stands on the stack is false, on at the step that the next one names. */
        private static final int UNLESS = 10110;
        private static final int ANSWER = 10111;

        private final int[][] steps = new int[LAWS + 1][TAPE_LONG];
        private final int[] stepsLong = new int[LAWS + 1];
        private final int[] stack = new int[STACK];
        private int top;
        private int number;
        private final int[] leastStood = new int[LAWS];
        private final int[] greatestFell = new int[LAWS];
        private int trials;

        Laws() {
            for (int law = 0; law < LAWS; law++) {
                leastStood[law] = Integer.MAX_VALUE;
                greatestFell[law] = Integer.MIN_VALUE;
            }
        }

        boolean has(int law) {
            return law >= 0 && law < number;
        }

        void clearRow() {
            stepsLong[number] = 0;
        }

        /** One more step of the LAW that is being read. */
        void emit(int step) {
            int at = stepsLong[number];
            if (at < TAPE_LONG) {
                steps[number][at] = step;
                stepsLong[number] = at + 1;
            }
        }

        int length() {
            return stepsLong[number];
        }

        /** The CLAUSE that begins with the step at a place goes on behind all there is now. */
        void aim(int at) {
            if (at >= 0 && at < stepsLong[number]) {
                steps[number][at] = stepsLong[number];
            }
        }

        int valueOf(int law, int[] letters) {
            int many = stepsLong[law];
            int at = 0;
            top = 0;
            for (int k = 0; k < many && at < many; k++) {
                int step = steps[law][at];
                at++;
                if (step < LETTER) {
                    push(step);
                } else if (step < PLUS) {
                    push(step - LETTER < letters.length ? letters[step - LETTER] : 0);
                } else if (step == UNLESS) {
                    at = pop() == 0 && at < many ? steps[law][at] : at + 1;
                } else if (step == ANSWER) {
                    return pop();
                } else if (step == NOT) {
                    push(1 - pop());
                } else {
                    int right = pop();
                    push(bounded(joined(step, pop(), right)));
                }
            }
            return 0;
        }

        private void push(int v) {
            if (top < STACK) {
                stack[top] = v;
                top++;
            }
        }

        private int pop() {
            if (top <= 0) {
                return 0;
            }
            top--;
            return stack[top];
        }

        private static long joined(int step, long left, long right) {
            switch (step) {
                case PLUS:
                    return left + right;
                case MINUS:
                    return left - right;
                case TIMES:
                    return left * right;
                case BY:
                    return right == 0 ? 0 : left / right;
                case EQUAL:
                    return left == right ? 1 : 0;
                case BELOW:
                    return left < right ? 1 : 0;
                case ABOVE:
                    return left > right ? 1 : 0;
                case AND:
                    return left & right;
                default:
                    return left | right;
            }
        }

        private static int bounded(long v) {
            if (v > WORTH_BOUND) {
                return WORTH_BOUND;
            }
            return v < -WORTH_BOUND ? -WORTH_BOUND : (int) v;
        }

        void tellTrial(int law, int worth, boolean stood) {
            if (stood) {
                leastStood[law] = Math.min(leastStood[law], worth);
            } else {
                greatestFell[law] = Math.max(greatestFell[law], worth);
            }
            trials++;
        }

        int verdict(int law, int worth) {
            boolean stood = worth >= leastStood[law];
            boolean fell = worth <= greatestFell[law];
            if (stood == fell) {
                return NONE;
            }
            return stood ? 1 : 0;
        }
    }

    /** Reads the TAPE as a LAW; the depth tells how many of ( [ ! stand open. */
    private static final class LawReader {
        private static final int DEEPEST = 6;

        private final Tape tape;
        private final Laws laws;

        LawReader(Tape tape, Laws laws) {
            this.tape = tape;
            this.laws = laws;
        }

        boolean readsTape() {
            laws.clearRow();
            tape.begin();
            for (int k = 0; k < TAPE_LONG; k++) {
                if (!clause()) {
                    return false;
                }
                if (!tape.takes(';')) {
                    return tape.look() == END || tape.wrongHere();
                }
            }
            return tape.wrongHere();
        }

        private boolean clause() {
            if (!tape.takes('y') || !tape.takes(':')) {
                return tape.wrongHere();
            }
            boolean opens = opensUnit(tape.look());
            if (!opens) {
                if (!sum(0)) {
                    return false;
                }
                if (comparing(tape.look()) == NONE) {
                    laws.emit(Laws.ANSWER);
                    return true;
                }
            }
            return condition(0, !opens) && conditioned();
        }

        private boolean conditioned() {
            if (!tape.takes('?')) {
                return tape.wrongHere();
            }
            laws.emit(Laws.UNLESS);
            int aimed = laws.length();
            laws.emit(0);
            if (!sum(0)) {
                return false;
            }
            laws.emit(Laws.ANSWER);
            laws.aim(aimed);
            return true;
        }

        /** Begun: the first SUM of it is read already, as it could have been a CLAUSE of its own. */
        private boolean condition(int depth, boolean begun) {
            if (!truth(depth, begun)) {
                return false;
            }
            for (int k = 0; k < TAPE_LONG && tape.takes('|'); k++) {
                if (!truth(depth, false)) {
                    return false;
                }
                laws.emit(Laws.OR);
            }
            return true;
        }

        private boolean truth(int depth, boolean begun) {
            if (!unit(depth, begun)) {
                return false;
            }
            for (int k = 0; k < TAPE_LONG && tape.takes('&'); k++) {
                if (!unit(depth, false)) {
                    return false;
                }
                laws.emit(Laws.AND);
            }
            return true;
        }

        private boolean unit(int depth, boolean begun) {
            if (!begun && opensUnit(tape.look())) {
                return opened(depth);
            }
            if (!begun && !sum(depth)) {
                return false;
            }
            int step = comparing(tape.look());
            if (step == NONE) {
                return tape.wrongHere();
            }
            tape.step();
            if (!sum(depth)) {
                return false;
            }
            laws.emit(step);
            return true;
        }

        private boolean opened(int depth) {
            if (depth >= DEEPEST) {
                return tape.wrongHere();
            }
            if (tape.takes('(')) {
                return condition(depth + 1, false) && (tape.takes(')') || tape.wrongHere());
            }
            tape.step();
            if (!unit(depth + 1, false)) {
                return false;
            }
            laws.emit(Laws.NOT);
            return true;
        }

        private boolean sum(int depth) {
            if (!term(depth)) {
                return false;
            }
            for (int k = 0; k < TAPE_LONG; k++) {
                int sign = tape.look();
                if (sign != '+' && sign != '-') {
                    return true;
                }
                tape.step();
                if (!term(depth)) {
                    return false;
                }
                laws.emit(sign == '+' ? Laws.PLUS : Laws.MINUS);
            }
            return tape.wrongHere();
        }

        private boolean term(int depth) {
            if (!atom(depth)) {
                return false;
            }
            for (int k = 0; k < TAPE_LONG; k++) {
                int sign = tape.look();
                if (sign != '*' && sign != '/') {
                    return true;
                }
                tape.step();
                if (!atom(depth)) {
                    return false;
                }
                laws.emit(sign == '*' ? Laws.TIMES : Laws.BY);
            }
            return tape.wrongHere();
        }

        private boolean atom(int depth) {
            int sign = tape.look();
            if (isDigit(sign)) {
                int v = tape.readNumber(4);
                laws.emit(v);
                return v != NONE;
            }
            int letter = letterOf(sign);
            if (letter != NONE) {
                tape.step();
                laws.emit(Laws.LETTER + letter);
                return true;
            }
            if (sign != '[' || depth >= DEEPEST) {
                return tape.wrongHere();
            }
            tape.step();
            return sum(depth + 1) && (tape.takes(']') || tape.wrongHere());
        }

        private static boolean opensUnit(int sign) {
            return sign == '!' || sign == '(';
        }

        private static int comparing(int sign) {
            switch (sign) {
                case '=':
                    return Laws.EQUAL;
                case '<':
                    return Laws.BELOW;
                case '>':
                    return Laws.ABOVE;
                default:
                    return NONE;
            }
        }

        private static int letterOf(int sign) {
            switch (sign) {
                case 'w':
                    return 0;
                case 's':
                    return 1;
                case 'f':
                    return 2;
                case 'n':
                    return 3;
                case 'b':
                    return 4;
                case 'r':
                    return 5;
                case 't':
                    return 6;
                case 'u':
                    return 7;
                case 'k':
                    return 8;
                default:
                    return NONE;
            }
        }
    }

    /**
     * DISHES. A DISH is a number whose digits are the PARTS of the THINGS, so that DISHES in
     * their order are numbers in theirs. What stands for a PAGE holds till something is told
     * that could change it: the age.
     */
    private static final class Pot {
        /** More than 5,000 can be halved. */
        private static final int HALVINGS = 16;

        private final Pages pages;
        private final Pantry pantry;
        private final Laws laws;
        private int mostParts = 6;
        private int holds;
        /** Bits of the LAWS by which a PAGE is held. */
        private final int[] heldBy = new int[PAGES];
        private final int[][] heldLeast = new int[PAGES][LAWS];
        private final int[][] heldMost = new int[PAGES][LAWS];
        private int age;
        private final int[] countAge = new int[PAGES];
        private final int[] counts = new int[PAGES];
        private final int[][] firstParts = new int[PAGES][PAGE_THINGS];
        /** The PAGE whose DISHES stand in the rows below. */
        private int shown = NONE;
        private final int[] kept = new int[DISHES];
        private final int[] low = new int[PAGE_THINGS];
        private final int[] wide = new int[PAGE_THINGS];
        private final int[] stride = new int[PAGE_THINGS];
        private final int[] parts = new int[PAGE_THINGS];
        /** What the letters w s f n b r t u k are for the DISH that is shown. */
        private final int[] letters = new int[LAW_LETTERS];

        Pot(Pages pages, Pantry pantry, Laws laws) {
            this.pages = pages;
            this.pantry = pantry;
            this.laws = laws;
            for (int page = 0; page < PAGES; page++) {
                countAge[page] = NONE;
            }
        }

        void tellMost(int v) {
            mostParts = v;
            age++;
        }

        /** All HOLDS of a PAGE by one LAW are kept together if the narrowest bounds are. */
        int tellHold(int page, int law, int least, int most) {
            if (holds >= HOLDS) {
                return NONE;
            }
            boolean isNew = !holdsBit(heldBy[page], law);
            heldLeast[page][law] = isNew ? least : Math.max(heldLeast[page][law], least);
            heldMost[page][law] = isNew ? most : Math.min(heldMost[page][law], most);
            heldBy[page] |= 1 << law;
            holds++;
            age++;
            return holds;
        }

        /** Whether counts and firstParts of a PAGE stand, whatever PAGE is shown. */
        boolean isCounted(int page) {
            return countAge[page] == age;
        }

        /** How many DISHES a PAGE lets (NONE: not told); they stand in the rows then. */
        int lay(int page) {
            if (shown == page && countAge[page] == age) {
                return counts[page];
            }
            shown = page;
            countAge[page] = age;
            int all = frame(page);
            counts[page] = all > DISHES ? NONE : 0;
            for (int dish = 0; dish < all && all <= DISHES; dish++) {
                spread(dish);
                if (keepsHolds(page)) {
                    keep(page, dish);
                }
            }
            return counts[page];
        }

        private void keep(int page, int dish) {
            int many = counts[page];
            if (many == 0) {
                System.arraycopy(parts, 0, firstParts[page], 0, PAGE_THINGS);
            }
            kept[many] = dish;
            counts[page] = many + 1;
        }

        /** Sets what all DISHES of a PAGE have in common; how many what it tells lets. */
        private int frame(int page) {
            int all = 1;
            for (int k = pages.thingsOn[page] - 1; k >= 0 && all <= DISHES; k--) {
                boolean isTold = pages.least[page][k] > 0;
                low[k] = isTold ? pages.least[page][k] : 1;
                wide[k] = isTold ? pages.greatest[page][k] - low[k] + 1 : mostParts;
                stride[k] = all;
                all *= wide[k];
            }
            for (int act = 0; act < ACT_LETTERS; act++) {
                letters[4 + act] = pages.times[page][act];
            }
            letters[8] = (pages.bits[page] & pantry.fleshy) != 0 ? 1 : 0;
            return all;
        }

        private boolean keepsHolds(int page) {
            for (int law = 0; law < laws.number; law++) {
                if (holdsBit(heldBy[page], law)) {
                    int worth = laws.valueOf(law, letters);
                    if (worth < heldLeast[page][law] || worth > heldMost[page][law]) {
                        return false;
                    }
                }
            }
            return true;
        }

        /** Shows the i-th DISH of those that stand in the rows. */
        void show(int i) {
            if (i >= 0 && i < DISHES) {
                spread(kept[i]);
            }
        }

        private void spread(int dish) {
            int wet = 0;
            int sweet = 0;
            int firm = 0;
            int all = 0;
            for (int k = 0; k < pages.thingsOn[shown]; k++) {
                int thing = pages.letter[shown][k];
                int v = partsIn(dish, k);
                parts[k] = v;
                wet += v * pantry.wet[thing];
                sweet += v * pantry.sweet[thing];
                firm += v * pantry.firm[thing];
                all += v;
            }
            letters[0] = wet;
            letters[1] = sweet;
            letters[2] = firm;
            letters[3] = all;
        }

        private int partsIn(int dish, int place) {
            boolean isLaid = stride[place] > 0 && wide[place] > 0;
            return isLaid ? low[place] + dish / stride[place] % wide[place] : low[place];
        }

        int shownCount() {
            return shown == NONE ? 0 : counts[shown];
        }

        /** PARTS at a place in the i-th DISH, without showing all of it. */
        int partsAt(int i, int place) {
            return i >= 0 && i < DISHES ? partsIn(kept[i], place) : 0;
        }

        int partsOf(int thing) {
            int place = shown == NONE ? NONE : pages.placeOf(shown, thing);
            return place == NONE ? 0 : parts[place];
        }

        /** Whether the i-th DISH is one, too, with PARTS at two places changed about. */
        boolean turns(int i, int here, int there) {
            int mine = partsAt(i, here);
            int others = partsAt(i, there);
            int up = others - mine;
            boolean fits = isWithin(others, low[here], low[here] + wide[here] - 1)
                    && isWithin(mine, low[there], low[there] + wide[there] - 1);
            return fits && isKept(kept[i] + up * stride[here] - up * stride[there]);
        }

        /** The row is in order, so that halving it finds a DISH. */
        private boolean isKept(int dish) {
            int from = 0;
            int to = counts[shown];
            for (int k = 0; k < HALVINGS && from < to; k++) {
                int middle = (from + to) / 2;
                if (kept[middle] < dish) {
                    from = middle + 1;
                } else {
                    to = middle;
                }
            }
            return from < counts[shown] && kept[from] == dish;
        }
    }

    /** What all DISHES that stand in the pot tell together, and what the one shown tells. */
    private static final class Taster {
        private final Pages pages;
        private final Pantry pantry;
        private final Laws laws;
        private final Pot pot;
        private final int[] tally = new int[GREATEST_PARTS + 1];
        private final int[] guesses = new int[PAGE_THINGS];
        private final int[] left = new int[PAIRED_DISHES];
        private final int[] right = new int[PAIRED_DISHES];

        Taster(Pages pages, Pantry pantry, Laws laws, Pot pot) {
            this.pages = pages;
            this.pantry = pantry;
            this.laws = laws;
            this.pot = pot;
        }

        /** The least (0) or the greatest (1) PARTS at a place. */
        int edge(int place, int side) {
            int best = pot.partsAt(0, place);
            for (int i = 1; i < pot.shownCount(); i++) {
                best = further(best, pot.partsAt(i, place), side);
            }
            return best;
        }

        private static int further(int best, int v, int side) {
            return side == 0 ? Math.min(best, v) : Math.max(best, v);
        }

        int sameInAll(int page) {
            int bits = 0;
            for (int k = 0; k < pages.thingsOn[page]; k++) {
                if (edge(k, 0) == edge(k, 1)) {
                    bits |= 1 << pages.letter[page][k];
                }
            }
            return bits;
        }

        int worthEdge(int law, int side) {
            pot.show(0);
            int best = laws.valueOf(law, pot.letters);
            for (int i = 1; i < pot.shownCount(); i++) {
                pot.show(i);
                best = further(best, laws.valueOf(law, pot.letters), side);
            }
            return best;
        }

        /** The THING that, weighed, leaves the fewest DISHES at worst. */
        int mostTelling(int page) {
            int best = NONE;
            int fewest = DISHES + 1;
            for (int k = 0; k < pages.thingsOn[page]; k++) {
                int worst = mostAlike(k);
                if (worst < fewest) {
                    fewest = worst;
                    best = pages.letter[page][k];
                }
            }
            return best;
        }

        private int mostAlike(int place) {
            for (int v = 0; v <= GREATEST_PARTS; v++) {
                tally[v] = 0;
            }
            int worst = 0;
            for (int i = 0; i < pot.shownCount(); i++) {
                int v = pot.partsAt(i, place);
                if (isWithin(v, 0, GREATEST_PARTS)) {
                    tally[v]++;
                    worst = Math.max(worst, tally[v]);
                }
            }
            return worst;
        }

        int judged(int law, int verdict) {
            int many = 0;
            for (int i = 0; i < pot.shownCount(); i++) {
                pot.show(i);
                if (laws.verdict(law, laws.valueOf(law, pot.letters)) == verdict) {
                    many++;
                }
            }
            return many;
        }

        int heft(int year) {
            int all = 0;
            for (int k = 0; k < pages.thingsOn[pot.shown]; k++) {
                all += pot.parts[k] * pantry.bigIn(pages.letter[pot.shown][k], year);
            }
            return all;
        }

        int heftEdge(int year, int side) {
            pot.show(0);
            int best = heft(year);
            for (int i = 1; i < pot.shownCount(); i++) {
                pot.show(i);
                best = further(best, heft(year), side);
            }
            return best;
        }

        int minutes(int size, int fire) {
            int cooled = 10 * size + pot.letters[0];
            int gain = cooled > 0 ? 100 * fire / cooled : 0;
            int heat = 10;
            for (int minute = 1; minute <= MINUTES; minute++) {
                heat += gain - heat / 25;
                if (heat >= 100) {
                    return minute;
                }
            }
            return NONE;
        }

        int leastOff(int page) {
            boolean isGuessed = false;
            for (int k = 0; k < pages.thingsOn[page]; k++) {
                guesses[k] = pages.meanTold(page, pages.letter[page][k]);
                isGuessed = isGuessed || guesses[k] != NONE;
            }
            int best = NONE;
            int least = Integer.MAX_VALUE;
            for (int i = 0; i < pot.shownCount() && isGuessed; i++) {
                pot.show(i);
                int off = offGuesses(page);
                if (off < least) {
                    least = off;
                    best = i;
                }
            }
            return best;
        }

        private int offGuesses(int page) {
            int off = 0;
            for (int k = 0; k < pages.thingsOn[page]; k++) {
                if (guesses[k] != NONE) {
                    off += Math.abs(pot.parts[k] - guesses[k]);
                }
            }
            return off;
        }

        int lead(int one, int other) {
            int many = Math.min(pot.shownCount(), PAIRED_DISHES);
            int lead = 0;
            for (int i = 0; i < many; i++) {
                pot.show(i);
                left[i] = laws.valueOf(one, pot.letters);
                right[i] = laws.valueOf(other, pot.letters);
                for (int k = 0; k < i; k++) {
                    lead += Integer.compare(left[i], left[k]) * Integer.compare(right[i], right[k]);
                }
            }
            return lead;
        }

        int turnedAbout(int here, int there) {
            int many = 0;
            for (int i = 0; i < pot.shownCount(); i++) {
                if (pot.turns(i, here, there)) {
                    many++;
                }
            }
            return many;
        }
    }

    /** How far PAGES are from one another; a PAGE never changes, so all is reckoned once. */
    private static final class Kin {
        private final Pages pages;
        private final int[][] apart = new int[PAGES][PAGES];
        private final int[][] actsApart = new int[PAGES][PAGES];
        private final int[] parent = new int[PAGES];
        private final int[] row = new int[ACTS_TOLD_OUT + 1];
        private final int[] reach = new int[PAGES];
        private final boolean[] isJoined = new boolean[PAGES];

        Kin(Pages pages) {
            this.pages = pages;
        }

        void join(int page) {
            parent[page] = NONE;
            for (int other = 0; other < page; other++) {
                int acts = actChanges(page, other);
                int far = Integer.bitCount(pages.bits[page] ^ pages.bits[other]) + acts;
                actsApart[page][other] = acts;
                apart[page][other] = far;
                apart[other][page] = far;
                if (parent[page] == NONE || far < apart[page][parent[page]]) {
                    parent[page] = other;
                }
            }
        }

        private int actChanges(int one, int other) {
            int wide = pages.actsLong[other];
            for (int k = 0; k <= wide; k++) {
                row[k] = k;
            }
            for (int i = 1; i <= pages.actsLong[one]; i++) {
                int slant = row[0];
                row[0] = i;
                for (int k = 1; k <= wide; k++) {
                    boolean isSame = pages.acts[one][i - 1] == pages.acts[other][k - 1];
                    int kept = isSame ? slant : slant + 1;
                    slant = row[k];
                    row[k] = Math.min(kept, Math.min(row[k], row[k - 1]) + 1);
                }
            }
            return row[wide];
        }

        int leastJoin() {
            for (int page = 0; page < pages.number; page++) {
                isJoined[page] = page == 0;
                reach[page] = apart[0][page];
            }
            int all = 0;
            for (int k = 1; k < pages.number; k++) {
                int next = closest();
                if (next != NONE) {
                    all += reach[next];
                    take(next);
                }
            }
            return all;
        }

        private int closest() {
            int best = NONE;
            for (int page = 0; page < pages.number; page++) {
                if (!isJoined[page] && (best == NONE || reach[page] < reach[best])) {
                    best = page;
                }
            }
            return best;
        }

        private void take(int next) {
            isJoined[next] = true;
            for (int page = 0; page < pages.number; page++) {
                reach[page] = Math.min(reach[page], apart[next][page]);
            }
        }

        int change(int page, int old, int what) {
            switch (what) {
                case 0:
                    return pages.bits[page] & ~pages.bits[old];
                case 1:
                    return pages.bits[old] & ~pages.bits[page];
                case 2:
                    return toldOtherwise(page, old);
                default:
                    return actsApart[page][old];
            }
        }

        private int toldOtherwise(int page, int old) {
            int bits = 0;
            for (int k = 0; k < pages.thingsOn[page]; k++) {
                int thing = pages.letter[page][k];
                int place = pages.placeOf(old, thing);
                if (place != NONE && (pages.least[page][k] != pages.least[old][place]
                        || pages.greatest[page][k] != pages.greatest[old][place])) {
                    bits |= 1 << thing;
                }
            }
            return bits;
        }

        int stepsUp(int page) {
            int many = 0;
            int at = parent[page];
            for (int k = 0; k < PAGES && at != NONE; k++) {
                many++;
                at = parent[at];
            }
            return many;
        }

        /** A PAGE came from a lower one, so that of two the higher one is never the STEM. */
        int meeting(int one, int other) {
            int a = one;
            int b = other;
            for (int k = 0; k < 2 * PAGES && a != b; k++) {
                if (a > b) {
                    a = parent[a];
                } else {
                    b = parent[b];
                }
            }
            return a;
        }
    }

    /** BOOKS. Row 0 of what is reckoned is the lost FIRST one, row k + 1 the BOOK k. */
    private static final class Copies {
        private static final int SLIP_UNTOLD = 10;

        private final int[] from = new int[BOOKS];
        private final int[] word = new int[BOOKS];
        private final int[][] slips = new int[WORDS][WORDS];
        private final int[][] costs = new int[BOOKS + 1][WORDS];
        private final long[][] paths = new long[BOOKS + 1][WORDS];
        private final int[] readable = new int[BOOKS + 1];
        private int number;

        Copies() {
            for (int one = 0; one < WORDS; one++) {
                for (int other = 0; other < WORDS; other++) {
                    slips[one][other] = one == other ? 0 : SLIP_UNTOLD;
                }
            }
        }

        boolean has(int book) {
            return book >= 0 && book < number;
        }

        int put(int old) {
            from[number] = old;
            word[number] = NONE;
            number++;
            return number - 1;
        }

        /** A copy has a higher number than what it is copied from, so the last comes first. */
        void reckon() {
            for (int at = 0; at <= number; at++) {
                for (int w = 0; w < WORDS; w++) {
                    costs[at][w] = 0;
                    paths[at][w] = 1;
                }
            }
            for (int book = number - 1; book >= 0; book--) {
                for (int w = 0; w < WORDS; w++) {
                    addCopy(book, w);
                }
            }
        }

        private void addCopy(int book, int above) {
            int best = leastBelow(book, above);
            long many = 0;
            for (int w = 0; w < WORDS; w++) {
                if (canRead(book, w) && slips[above][w] + costs[book + 1][w] == best) {
                    many += paths[book + 1][w];
                }
            }
            costs[from[book] + 1][above] += best;
            paths[from[book] + 1][above] *= many;
        }

        private int leastBelow(int book, int above) {
            int best = Integer.MAX_VALUE;
            for (int w = 0; w < WORDS; w++) {
                if (canRead(book, w)) {
                    best = Math.min(best, slips[above][w] + costs[book + 1][w]);
                }
            }
            return best;
        }

        private boolean canRead(int book, int w) {
            return word[book] == NONE || word[book] == w;
        }

        int cheapest() {
            int best = 0;
            for (int w = 1; w < WORDS; w++) {
                if (costs[0][w] < costs[0][best]) {
                    best = w;
                }
            }
            return best;
        }

        int wordsOf(int book) {
            int least = costs[0][cheapest()];
            readable[0] = 0;
            for (int w = 0; w < WORDS; w++) {
                if (costs[0][w] == least) {
                    readable[0] |= 1 << w;
                }
            }
            for (int copy = 0; copy <= book; copy++) {
                readable[copy + 1] = wordsBelow(copy, readable[from[copy] + 1]);
            }
            return readable[book + 1];
        }

        private int wordsBelow(int book, int aboves) {
            int bits = 0;
            for (int above = 0; above < WORDS; above++) {
                int best = leastBelow(book, above);
                for (int w = 0; w < WORDS && holdsBit(aboves, above); w++) {
                    if (canRead(book, w) && slips[above][w] + costs[book + 1][w] == best) {
                        bits |= 1 << w;
                    }
                }
            }
            return bits;
        }
    }

    /** DAYS. */
    private static final class Account {
        private static final int MESSES_ASKED = 99;

        private final Pages pages;
        private final Pantry pantry;
        private final Pot pot;
        private final int[] month = new int[DAYS];
        private final boolean[] isFish = new boolean[DAYS];
        private final int[][] stock = new int[DAYS][THINGS];
        private int number;

        Account(Pages pages, Pantry pantry, Pot pot) {
            this.pages = pages;
            this.pantry = pantry;
            this.pot = pot;
        }

        boolean has(int day) {
            return day >= 0 && day < number;
        }

        int put(int when, boolean fish) {
            month[number] = when;
            isFish[number] = fish;
            number++;
            return number - 1;
        }

        boolean isServed(int day, int page) {
            if (isFish[day] && (pages.bits[page] & pantry.fleshy) != 0) {
                return false;
            }
            if (!holdsBit(pages.monthsOf(page), month[day] - 1)) {
                return false;
            }
            int many = pot.isCounted(page) ? pot.counts[page] : pot.lay(page);
            return many == 1;
        }

        /** THINGS of the DISH shown of which so many messes need more than there is. */
        int tooFew(int day, int messes) {
            int bits = 0;
            for (int thing = 0; thing < pantry.number; thing++) {
                if (pot.partsOf(thing) * messes > stock[day][thing]) {
                    bits |= 1 << thing;
                }
            }
            return bits;
        }

        int messesFrom(int day) {
            int messes = MESSES_ASKED;
            for (int thing = 0; thing < pantry.number; thing++) {
                int parts = pot.partsOf(thing);
                if (parts > 0) {
                    messes = Math.min(messes, stock[day][thing] / parts);
                }
            }
            return messes;
        }
    }

    /** MENUS, laid out anew for each call, the last PAGE's messes all at once. */
    private static final class Menus {
        private static final int MANY = 0;
        private static final int IN_ALL = 1;
        private static final int IN_SOME = 2;
        private static final int FEWEST = 3;
        private static final int MOST_MESSES = 4;
        private static final int LEAN_MANY = 5;
        private static final int LEAN_LOWEST = 6;
        private static final int LEAN_WASTE = 7;

        private final Pages pages;
        private final Pot pot;
        private final Account account;
        private final int[] pageAt = new int[MENU_PAGES];
        private final int[] caps = new int[MENU_PAGES];
        private final int[][] dose = new int[MENU_PAGES][THINGS];
        /** What is BOUGHT and not used so far. */
        private final int[] spare = new int[THINGS];
        private final int[] chosen = new int[MENU_PAGES];
        private final int[] wantedMesses = new int[MENU_PAGES];
        private final int[] found = new int[LEAN_WASTE + 1];
        private int places;
        private int things;
        private int overMost;
        private int wanted;
        private int wantedWaste;

        Menus(Pages pages, Pot pot, Account account) {
            this.pages = pages;
            this.pot = pot;
            this.account = account;
        }

        /** Lays out all MENUS; what is asked of all stands in found, the wanted one in its row. */
        void layOut(int day, int bits, int over, int i) {
            places = 0;
            things = 0;
            overMost = over;
            wanted = i;
            for (int page = 0; page < pages.number; page++) {
                if (holdsBit(bits, page) && places < MENU_PAGES) {
                    setPlace(page, account.isServed(day, page));
                }
            }
            for (int thing = 0; thing < THINGS; thing++) {
                spare[thing] = account.stock[day][thing];
            }
            clearFound();
            choose(0);
        }

        private void setPlace(int page, boolean served) {
            pageAt[places] = page;
            caps[places] = served ? MENU_MESSES : 0;
            for (int thing = 0; thing < THINGS; thing++) {
                dose[places][thing] = 0;
            }
            for (int k = 0; k < pages.thingsOn[page] && served; k++) {
                dose[places][pages.letter[page][k]] = pot.firstParts[page][k];
            }
            things |= pages.bits[page];
            chosen[places] = 0;
            places++;
        }

        private void clearFound() {
            found[MANY] = 0;
            found[IN_ALL] = 0;
            found[IN_SOME] = 0;
            found[FEWEST] = NONE;
            found[MOST_MESSES] = NONE;
            found[LEAN_MANY] = 0;
            found[LEAN_LOWEST] = NONE;
            found[LEAN_WASTE] = NONE;
        }

        private void choose(int place) {
            if (place >= places || place >= MENU_PAGES) {
                return;
            }
            int top = room(place);
            if (place == places - 1) {
                noteMenus(place, need(place), top);
                return;
            }
            for (int messes = 0; messes <= top; messes++) {
                chosen[place] = messes;
                choose(place + 1);
                use(place, 1);
            }
            use(place, -top - 1);
        }

        /** The most messes for which there is enough. */
        private int room(int place) {
            int most = caps[place];
            for (int thing = 0; thing < THINGS; thing++) {
                if (dose[place][thing] > 0) {
                    most = Math.min(most, spare[thing] / dose[place][thing]);
                }
            }
            return most;
        }

        /** The fewest messes by which no more is over than may be. */
        private int need(int place) {
            int fewest = 0;
            for (int thing = 0; thing < THINGS; thing++) {
                int tooMuch = spare[thing] - overMost;
                if (holdsBit(things, thing) && tooMuch > 0) {
                    int each = dose[place][thing];
                    fewest = Math.max(fewest, each > 0 ? (tooMuch + each - 1) / each : MENU_MESSES + 1);
                }
            }
            return fewest;
        }

        private void use(int place, int messes) {
            for (int thing = 0; thing < THINGS; thing++) {
                spare[thing] -= messes * dose[place][thing];
            }
        }

        /** MENUS that are alike but for the last PAGE: of this from low to top messes. */
        private void noteMenus(int last, int low, int top) {
            if (low > top) {
                return;
            }
            int bits = 0;
            int messes = 0;
            for (int place = 0; place < last; place++) {
                messes += chosen[place];
                if (chosen[place] > 0) {
                    bits |= 1 << pageAt[place];
                }
            }
            int lastBit = 1 << pageAt[last];
            int inAll = low > 0 ? bits | lastBit : bits;
            int number = found[MANY];
            found[IN_ALL] = number == 0 ? inAll : found[IN_ALL] & inAll;
            found[IN_SOME] |= top > 0 ? bits | lastBit : bits;
            found[FEWEST] = number == 0 ? messes + low : Math.min(found[FEWEST], messes + low);
            found[MOST_MESSES] = Math.max(found[MOST_MESSES], messes + top);
            noteWaste(last, low, top);
            found[MANY] = number + top - low + 1;
        }

        private void noteWaste(int last, int low, int top) {
            int number = found[MANY];
            int each = 0;
            int waste = 0;
            for (int thing = 0; thing < THINGS; thing++) {
                if (holdsBit(things, thing)) {
                    each += dose[last][thing];
                    waste += spare[thing];
                }
            }
            noteLean(number + top - low, waste - top * each);
            if (wanted >= number && wanted <= number + top - low) {
                System.arraycopy(chosen, 0, wantedMesses, 0, MENU_PAGES);
                wantedMesses[last] = low + wanted - number;
                wantedWaste = waste - wantedMesses[last] * each;
            }
        }

        /** Of MENUS that are alike but for the last PAGE the one with the most messes alone wastes least. */
        private void noteLean(int number, int waste) {
            if (found[LEAN_MANY] == 0 || waste < found[LEAN_WASTE]) {
                found[LEAN_MANY] = 0;
                found[LEAN_LOWEST] = number;
                found[LEAN_WASTE] = waste;
            }
            if (waste == found[LEAN_WASTE]) {
                found[LEAN_MANY]++;
            }
        }

        int messesOf(int page) {
            for (int place = 0; place < places; place++) {
                if (pageAt[place] == page) {
                    return wantedMesses[place];
                }
            }
            return NONE;
        }
    }
}
