import java.util.ArrayList;
import java.util.Arrays;
import java.util.List;
import java.util.Random;

/**
 * What some calls answer follows from what others answer: of small books told by numbered seeds all
 * that the document defines by DISHES, PAGES and BOOKS is put together again by going through all there is.
 */
public final class FollowsTest {
    private static final int NONE = PotBook.NONE;
    private static final int ASKED_OF_ONE = 300;
    private static final int THINGS = 5;

    private final int seed;
    private final boolean held;
    private PotBook x;
    private int asked = ASKED_OF_ONE;

    /** What was told, as the checks need it. */
    private final int[] wet = new int[THINGS];
    private final boolean[] flesh = new boolean[THINGS];
    private final List<String> pages = new ArrayList<>();
    private final List<int[]> holds = new ArrayList<>();
    private final List<Integer> from = new ArrayList<>();
    private final List<Integer> word = new ArrayList<>();
    private final int[][] slips = new int[8][8];
    private final int[] bought = new int[THINGS];
    private int month;
    private boolean fish;

    private FollowsTest(int seed, boolean held) {
        this.seed = seed;
        this.held = held;
    }

    public static void main(String[] args) {
        int to = args.length > 0 ? Integer.parseInt(args[0]) : 60;
        for (int seed = 1; seed <= to; seed++) {
            FollowsTest t = new FollowsTest(seed, true);
            t.x();
            t.kin();
            t.writers();
            t.books();
            t.menus();
            for (int page = 0; page < t.pages.size(); page++) {
                t.ofPage(page);
            }
        }
        Due.close("FollowsTest");
    }

    /** The object to ask; a new one told likewise after so many calls. */
    private PotBook x() {
        if (asked >= ASKED_OF_ONE) {
            asked = 0;
            x = new PotBook();
            tell(x, new Random(seed));
        }
        asked++;
        return x;
    }

    private void tell(PotBook y, Random random) {
        pages.clear();
        holds.clear();
        from.clear();
        word.clear();
        for (int t = 0; t < THINGS; t++) {
            wet[t] = random.nextInt(60);
            flesh[t] = random.nextInt(4) == 0;
            y.thing(wet[t], random.nextInt(60), random.nextInt(60), flesh[t], 1 + random.nextInt(2), 12);
            for (int k = 0; k < t; k++) {
                y.sized(t, 1300 + 150 * k, 1 + random.nextInt(30));
            }
        }
        y.most(2 + random.nextInt(4));
        for (int page = 0; page < 5; page++) {
            pages.add(pageText(random));
            Due.tell(y, pages.get(page), 0);
            y.wrote(page, random.nextInt(2));
        }
        Due.tell(y, "y:w+s-f*2", 1);
        Due.tell(y, "y:n>5&!(b<1)?s/n;y:f-[r+t]*9", 1);
        for (int k = 0; k < 3; k++) {
            int worth = random.nextInt(200) - 100;
            int[] hold = {random.nextInt(5), random.nextInt(2), worth - 150, worth + 150};
            holds.add(hold);
            if (held) {
                y.hold(hold[0], hold[1], hold[2], hold[3]);
            }
            y.trial(k % 2, random.nextInt(200) - 50, random.nextBoolean());
        }
        tellBooks(y, random);
        month = 1 + random.nextInt(12);
        fish = random.nextInt(4) == 0;
        y.day(month, fish);
        for (int t = 0; t < THINGS; t++) {
            bought[t] = random.nextInt(16);
            y.bought(0, t, bought[t]);
        }
    }

    private void tellBooks(PotBook y, Random random) {
        for (int book = 0; book < 4; book++) {
            from.add(random.nextInt(book + 1) - 1);
            word.add(random.nextInt(3) == 0 ? NONE : random.nextInt(8));
            y.book(from.get(book));
            y.reads(book, word.get(book));
        }
        for (int[] row : slips) {
            Arrays.fill(row, 10);
        }
        for (int k = 0; k < 8; k++) {
            slips[k][k] = 0;
        }
        for (int k = 0; k < 20; k++) {
            int one = random.nextInt(8);
            int other = (one + 1 + random.nextInt(7)) % 8;
            slips[one][other] = random.nextInt(6) * 4;
            y.slip(one, other, slips[one][other]);
        }
    }

    private static String pageText(Random random) {
        StringBuilder text = new StringBuilder();
        List<Integer> letters = new ArrayList<>(List.of(0, 1, 2, 3, 4));
        java.util.Collections.shuffle(letters, random);
        boolean told = random.nextInt(2) == 0;
        for (int k = 0; k < 1 + random.nextInt(3); k++) {
            text.append(k > 0 ? "," : "").append((char) ('a' + letters.get(k)));
            int least = 1 + random.nextInt(3);
            if (told || random.nextInt(2) == 0) {
                text.append(least);
            }
            if (!told && Character.isDigit(text.charAt(text.length() - 1)) && random.nextInt(2) == 0) {
                text.append('-').append(least + random.nextInt(3));
            }
        }
        text.append(';');
        for (int k = 0; k < 1 + random.nextInt(3); k++) {
            text.append("BRTS".charAt(random.nextInt(4)));
        }
        return text.toString();
    }

    private void due(String call, long got, long want) {
        Due.same("seed " + seed + ": " + call, got, want);
    }

    private static boolean has(int bits, int k) {
        return (bits >> k & 1) != 0;
    }

    // ---- what follows from DISHES

    private void ofPage(int page) {
        int many = x().dishes(page);
        int[][] rows = new int[many][THINGS];
        int[][] worth = new int[2][many];
        for (int i = 0; i < many; i++) {
            for (int t = 0; t < THINGS; t++) {
                rows[i][t] = x().dish(page, i, t);
            }
            worth[0][i] = x().worth(page, i, 0);
            worth[1][i] = x().worth(page, i, 1);
            if (i > 0) {
                Due.is("seed " + seed + ": DISHES in order", ahead(page, rows[i - 1], rows[i]), true);
            }
        }
        heldOnes(page, rows);
        if (many > 0) {
            spans(page, rows);
            weighing(page, rows);
            ofWorth(page, worth);
            ofYears(page, rows);
            nearest(page, rows);
        }
        pairs(page, rows, worth);
        onTheDay(page, rows);
        boiling(page, rows);
    }

    /** By the PARTS of the first THING on the PAGE, then of the second. */
    private boolean ahead(int page, int[] one, int[] other) {
        for (char sign : pages.get(page).toCharArray()) {
            int t = sign - 'a';
            if (t >= 0 && one[t] != other[t]) {
                return one[t] < other[t];
            }
        }
        return false;
    }

    /** The DISHES are those of a book without HOLDS by which all of them are kept. */
    private void heldOnes(int page, int[][] rows) {
        FollowsTest free = new FollowsTest(seed, false);
        int found = 0;
        for (int i = 0; i < free.x().dishes(page); i++) {
            boolean isKept = true;
            for (int[] hold : holds) {
                int worth = free.x().worth(page, i, hold[1]);
                isKept &= hold[0] != page || worth >= hold[2] && worth <= hold[3];
            }
            for (int t = 0; t < THINGS && isKept && found < rows.length; t++) {
                due("dish(" + page + ", " + found + ", " + t + ")", rows[found][t], free.x().dish(page, i, t));
            }
            found += isKept ? 1 : 0;
        }
        due("dishes(" + page + ")", rows.length, found);
    }

    private void spans(int page, int[][] rows) {
        int shared = 0;
        for (int t = 0; t < THINGS; t++) {
            int thing = t;
            int[] all = Arrays.stream(rows).mapToInt(r -> r[thing]).sorted().toArray();
            boolean there = pages.get(page).indexOf('a' + t) >= 0;
            due("span(" + page + ", " + t + ", 0)", x().span(page, t, 0), there ? all[0] : NONE);
            due("span(" + page + ", " + t + ", 1)", x().span(page, t, 1), there ? all[all.length - 1] : NONE);
            shared |= there && all[0] == all[all.length - 1] ? 1 << t : 0;
        }
        due("shared(" + page + ")", x().shared(page), shared);
    }

    private void weighing(int page, int[][] rows) {
        int best = NONE;
        int fewest = Integer.MAX_VALUE;
        for (char sign : pages.get(page).split(";")[0].toCharArray()) {
            int t = sign - 'a';
            int worst = 0;
            for (int[] one : rows) {
                int alike = 0;
                for (int[] other : rows) {
                    alike += t >= 0 && one[t] == other[t] ? 1 : 0;
                }
                worst = Math.max(worst, alike);
            }
            if (t >= 0 && worst < fewest) {
                fewest = worst;
                best = t;
            }
        }
        due("weigh(" + page + ")", x().weigh(page), best);
    }

    private void ofWorth(int page, int[][] worth) {
        for (int law = 0; law < 2; law++) {
            int[] all = worth[law].clone();
            Arrays.sort(all);
            due("range(" + page + ", " + law + ", 0)", x().range(page, law, 0), all[0]);
            due("range(" + page + ", " + law + ", 1)", x().range(page, law, 1), all[all.length - 1]);
            int[] judged = new int[3];
            for (int i = 0; i < all.length; i++) {
                judged[x().stands(page, i, law) + 1]++;
            }
            due("stand(" + page + ", " + law + ", 0)", x().stand(page, law, 0), judged[1]);
            due("stand(" + page + ", " + law + ", 1)", x().stand(page, law, 1), judged[2]);
        }
    }

    private void ofYears(int page, int[][] rows) {
        for (int year : new int[] {1200, 1377, 1640, 1999}) {
            int least = Integer.MAX_VALUE;
            int greatest = 0;
            for (int i = 0; i < rows.length; i++) {
                int all = 0;
                for (int t = 0; t < THINGS; t++) {
                    all += rows[i][t] * x().size(t, year);
                }
                due("weight(" + page + ", " + i + ", " + year + ")", x().weight(page, i, year), all);
                least = Math.min(least, all / 7);
                greatest = Math.max(greatest, all / 7);
            }
            due("serves(" + page + ", " + year + ", 7, 0)", x().serves(page, year, 7, 0), least);
            due("serves(" + page + ", " + year + ", 7, 1)", x().serves(page, year, 7, 1), greatest);
        }
    }

    private void nearest(int page, int[][] rows) {
        int best = NONE;
        int least = Integer.MAX_VALUE;
        for (int i = 0; i < rows.length; i++) {
            int off = 0;
            boolean any = false;
            for (int t = 0; t < THINGS; t++) {
                int guess = x().guess(page, t);
                any |= guess != NONE;
                off += guess != NONE ? Math.abs(guess - rows[i][t]) : 0;
            }
            if (any && off < least) {
                least = off;
                best = i;
            }
        }
        due("nearest(" + page + ")", x().nearest(page), best);
    }

    private void pairs(int page, int[][] rows, int[][] worth) {
        int lead = 0;
        for (int i = 0; i < rows.length; i++) {
            for (int k = 0; k < i; k++) {
                long by = (long) (worth[0][i] - worth[0][k]) * (worth[1][i] - worth[1][k]);
                lead += by > 0 ? 1 : by < 0 ? -1 : 0;
            }
        }
        due("softer(" + page + ", 0, 1)", x().softer(page, 0, 1), lead);
        for (int one = 0; one < THINGS; one++) {
            for (int other = 0; other < THINGS; other++) {
                int many = 0;
                for (int[] row : rows) {
                    int[] turned = row.clone();
                    turned[one] = row[other];
                    turned[other] = row[one];
                    many += Arrays.stream(rows).anyMatch(r -> Arrays.equals(r, turned)) ? 1 : 0;
                }
                String text = pages.get(page);
                boolean isTold = one != other && text.indexOf('a' + one) >= 0 && text.indexOf('a' + other) >= 0;
                due("swapped(" + page + ", " + one + ", " + other + ")", x().swapped(page, one, other), isTold ? many : NONE);
            }
        }
    }

    private void onTheDay(int page, int[][] rows) {
        for (int i = 0; i < rows.length; i++) {
            int enough = 0;
            for (int messes = 1; messes <= 16; messes++) {
                int bits = 0;
                for (int t = 0; t < THINGS; t++) {
                    bits |= rows[i][t] * messes > bought[t] ? 1 << t : 0;
                }
                enough += bits == 0 ? 1 : 0;
                due("lacking(0, " + page + ", " + i + ", " + messes + ")", x().lacking(0, page, i, messes), bits);
            }
            due("enough(0, " + page + ", " + i + ")", x().enough(0, page, i), enough);
        }
        boolean isServed = rows.length == 1 && has(x().months(page), month - 1);
        for (int t = 0; t < THINGS; t++) {
            isServed &= !fish || !flesh[t] || pages.get(page).indexOf('a' + t) < 0;
        }
        due("may(0, " + page + ")", x().may(0, page), isServed ? 1 : 0);
    }

    private void boiling(int page, int[][] rows) {
        for (int i = 0; i < rows.length; i++) {
            int all = 0;
            for (int t = 0; t < THINGS; t++) {
                all += rows[i][t] * wet[t];
            }
            for (int fire = 3; fire < 40; fire += 9) {
                int heat = 10;
                int minutes = 0;
                while (heat < 100 && minutes < 200) {
                    heat = heat + 100 * fire / (10 * 20 + all) - heat / 25;
                    minutes++;
                }
                due("boil(" + page + ", " + i + ", 20, " + fire + ")", x().boil(page, i, 20, fire), heat < 100 ? NONE : minutes);
            }
        }
    }

    // ---- what follows from how FAR PAGES are

    private void kin() {
        int many = pages.size();
        int[][] far = new int[many][many];
        int[] came = new int[many];
        for (int one = 0; one < many; one++) {
            came[one] = NONE;
            for (int other = 0; other < many; other++) {
                far[one][other] = x().far(one, other);
                due("far(" + one + ", " + other + ")", far[one][other], apart(one, other));
                if (other < one && (came[one] == NONE || far[one][other] < far[one][came[one]])) {
                    came[one] = other;
                }
            }
            due("came(" + one + ")", x().came(one), came[one]);
        }
        due("tree()", x().tree(), leastTree(far, 1, new int[many]));
        for (int one = 0; one < many; one++) {
            due("line(" + one + ")", x().line(one), lineOf(came, one).size() - 1);
            for (int other = 0; other < many; other++) {
                List<Integer> both = lineOf(came, one);
                both.retainAll(lineOf(came, other));
                due("stem(" + one + ", " + other + ")", x().stem(one, other), both.get(0));
            }
            if (one > 0) {
                int mine = x().page(one, 0);
                int old = x().page(came[one], 0);
                due("changed(" + one + ", 0)", x().changed(one, 0), mine & ~old);
                due("changed(" + one + ", 1)", x().changed(one, 1), old & ~mine);
                due("changed(" + one + ", 2)", x().changed(one, 2), otherwise(one, came[one]));
                due("changed(" + one + ", 3)", x().changed(one, 3), far[one][came[one]] - Integer.bitCount(mine ^ old));
            }
        }
    }

    private int apart(int one, int other) {
        String[] a = pages.get(one).split(";");
        String[] b = pages.get(other).split(";");
        int all = changes(a[1], b[1]);
        for (char t = 'a'; t < 'a' + THINGS; t++) {
            all += a[0].indexOf(t) < 0 != b[0].indexOf(t) < 0 ? 1 : 0;
        }
        return all;
    }

    /** The first ACT of the one is changed (or stays), is taken out, or that of the other is put in. */
    private static int changes(String one, String other) {
        if (one.isEmpty() || other.isEmpty()) {
            return one.length() + other.length();
        }
        int stays = one.charAt(0) == other.charAt(0) ? 0 : 1;
        int changed = stays + changes(one.substring(1), other.substring(1));
        int out = 1 + changes(one.substring(1), other);
        return Math.min(changed, Math.min(out, 1 + changes(one, other.substring(1))));
    }

    /** Of all trees: from each PAGE but the first goes one join up to some PAGE, and all come to the first. */
    private static int leastTree(int[][] far, int page, int[] up) {
        if (page < far.length) {
            int best = Integer.MAX_VALUE;
            for (int other = 0; other < far.length; other++) {
                up[page] = other;
                best = other == page ? best : Math.min(best, leastTree(far, page + 1, up));
            }
            return best;
        }
        int all = 0;
        for (int k = 1; k < far.length; k++) {
            int at = k;
            for (int steps = 0; at != 0; steps++) {
                if (steps > far.length) {
                    return Integer.MAX_VALUE;
                }
                at = up[at];
            }
            all += far[k][up[k]];
        }
        return all;
    }

    private static List<Integer> lineOf(int[] came, int page) {
        List<Integer> line = new ArrayList<>();
        for (int at = page; at != NONE; at = came[at]) {
            line.add(at);
        }
        return line;
    }

    /** Numbers told on a PAGE, as {least, most}; null: LEFT OUT, or not there. */
    private int[] told(int page, int thing) {
        for (String part : pages.get(page).split(";")[0].split(",")) {
            if (part.charAt(0) == 'a' + thing && part.length() > 1) {
                String[] ends = part.substring(1).split("-");
                return new int[] {Integer.parseInt(ends[0]), Integer.parseInt(ends[ends.length - 1])};
            }
        }
        return null;
    }

    private int otherwise(int one, int other) {
        int bits = 0;
        for (int t = 0; t < THINGS; t++) {
            boolean both = pages.get(one).indexOf('a' + t) >= 0 && pages.get(other).indexOf('a' + t) >= 0;
            bits |= both && !Arrays.equals(told(one, t), told(other, t)) ? 1 << t : 0;
        }
        return bits;
    }

    // ---- what follows from what WRITERS leave out

    private void writers() {
        for (int writer = 0; writer < 3; writer++) {
            int pairs = 0;
            for (int one = 0; one < pages.size(); one++) {
                for (int other = 0; other < one; other++) {
                    boolean its = x().page(one, 3) == writer && x().page(other, 3) == writer;
                    boolean alike = x().page(one, 0) == x().page(other, 0);
                    pairs += its && alike && x().page(one, 2) != x().page(other, 2) ? 1 : 0;
                }
            }
            due("twice(" + writer + ")", x().twice(writer), pairs);
            for (int t = 0; t < THINGS; t++) {
                int left = 0;
                int all = 0;
                for (int page = 0; page < pages.size(); page++) {
                    boolean its = x().page(page, 3) == writer;
                    left += its && has(x().page(page, 2), t) ? 1 : 0;
                    all += its && has(x().page(page, 0), t) ? 1 : 0;
                }
                due("leaves(" + writer + ", " + t + ", 0)", x().leaves(writer, t, 0), left);
                due("leaves(" + writer + ", " + t + ", 1)", x().leaves(writer, t, 1), all - left);
            }
        }
        for (int page = 0; page < pages.size(); page++) {
            for (int t = 0; t < THINGS; t++) {
                due("guess(" + page + ", " + t + ")", x().guess(page, t), mean(page, t));
            }
        }
    }

    private int mean(int page, int thing) {
        int many = 0;
        int all = 0;
        for (int other = 0; other < pages.size(); other++) {
            int[] ends = told(other, thing);
            if (ends != null && x().page(other, 3) == x().page(page, 3)) {
                many++;
                all += (ends[0] + ends[1]) / 2;
            }
        }
        return many > 0 && has(x().page(page, 2), thing) ? all / many : NONE;
    }

    // ---- BOOKS, by all that they may have read

    private void books() {
        int[] least = new int[8];
        long[] ways = new long[8];
        int[][] reads = new int[8][from.size()];
        Arrays.fill(least, Integer.MAX_VALUE);
        int all = 1 << 3 * (from.size() + 1);
        for (int k = 0; k < all; k++) {
            int first = k & 7;
            int cost = 0;
            boolean isSo = true;
            for (int book = 0; book < from.size(); book++) {
                int mine = k >> 3 * (book + 1) & 7;
                int above = from.get(book) == NONE ? first : k >> 3 * (from.get(book) + 1) & 7;
                isSo &= word.get(book) == NONE || word.get(book) == mine;
                cost += slips[above][mine];
            }
            if (isSo && cost < least[first]) {
                least[first] = cost;
                ways[first] = 0;
                Arrays.fill(reads[first], 0);
            }
            if (isSo && cost == least[first]) {
                ways[first]++;
                for (int book = 0; book < from.size(); book++) {
                    reads[first][book] |= 1 << (k >> 3 * (book + 1) & 7);
                }
            }
        }
        int best = 0;
        for (int w = 0; w < 8; w++) {
            due("cost(" + w + ")", x().cost(w), least[w]);
            due("ways(" + w + ")", x().ways(w), ways[w]);
            best = least[w] < least[best] ? w : best;
        }
        due("first()", x().first(), best);
        for (int book = 0; book < from.size(); book++) {
            int bits = 0;
            for (int w = 0; w < 8; w++) {
                bits |= least[w] == least[best] ? reads[w][book] : 0;
            }
            due("could(" + book + ")", x().could(book), bits);
        }
    }

    // ---- MENUS, by all messes that there may be

    private void menus() {
        for (int bits = 1; bits < 1 << pages.size(); bits++) {
            for (int over : new int[] {3, 16}) {
                List<int[]> found = new ArrayList<>();
                lay(bits, over, 0, new int[pages.size()], found);
                menus(bits, over, found);
            }
        }
    }

    /** By the messes of the lowest PAGE, then the next; behind them what is over together. */
    private void lay(int bits, int over, int page, int[] messes, List<int[]> found) {
        if (page < pages.size()) {
            for (int v = 0; v <= (has(bits, page) && isServed(page) ? 9 : 0); v++) {
                messes[page] = v;
                lay(bits, over, page + 1, messes, found);
            }
            messes[page] = 0;
            return;
        }
        int waste = 0;
        for (int t = 0; t < THINGS; t++) {
            int left = bought[t];
            boolean asked = false;
            for (int k = 0; k < pages.size(); k++) {
                asked |= has(bits, k) && pages.get(k).indexOf('a' + t) >= 0;
                left -= messes[k] == 0 ? 0 : messes[k] * parts(k, t);
            }
            if (asked && (left < 0 || left > over)) {
                return;
            }
            waste += asked ? left : 0;
        }
        int[] row = Arrays.copyOf(messes, pages.size() + 1);
        row[pages.size()] = waste;
        found.add(row);
    }

    private final int[] served = new int[16];
    private final int[][] dose = new int[16][THINGS];

    private boolean isServed(int page) {
        if (served[page] == 0) {
            served[page] = 1 + x().may(0, page);
            for (int t = 0; t < THINGS && served[page] == 2; t++) {
                dose[page][t] = x().dish(page, 0, t);
            }
        }
        return served[page] == 2;
    }

    private int parts(int page, int thing) {
        return isServed(page) ? dose[page][thing] : 0;
    }

    private void menus(int bits, int over, List<int[]> found) {
        int inAll = found.isEmpty() ? 0 : (1 << pages.size()) - 1;
        int inSome = 0;
        int fewest = Integer.MAX_VALUE;
        int most = NONE;
        int[] lean = {0, NONE, Integer.MAX_VALUE};
        for (int i = 0; i < found.size(); i++) {
            int[] row = found.get(i);
            int its = 0;
            int together = 0;
            for (int page = 0; page < pages.size(); page++) {
                its |= row[page] > 0 ? 1 << page : 0;
                together += row[page];
            }
            inAll &= its;
            inSome |= its;
            fewest = Math.min(fewest, together);
            most = Math.max(most, together);
            int waste = row[pages.size()];
            if (waste < lean[2]) {
                lean = new int[] {0, i, waste};
            }
            lean[0] += waste == lean[2] ? 1 : 0;
            if (i < 3 || i > found.size() - 3) {
                oneMenu(bits, over, i, row);
            }
        }
        boolean some = !found.isEmpty();
        int[] due = {found.size(), inAll, inSome, some ? fewest : NONE, most};
        for (int what = 0; what < 5; what++) {
            due("menu(0, " + bits + ", " + over + ", " + what + ")", x().menu(0, bits, over, what), due[what]);
        }
        for (int what = 0; what < 3; what++) {
            due("lean(0, " + bits + ", " + over + ", " + what + ")", x().lean(0, bits, over, what), some ? lean[what] : NONE);
        }
        due("wasted() of one more", x().wasted(0, bits, over, found.size()), NONE);
    }

    private void oneMenu(int bits, int over, int i, int[] row) {
        for (int page = 0; page < pages.size(); page++) {
            due("messes(0, " + bits + ", " + over + ", " + i + ", " + page + ")", x().messes(0, bits, over, i, page),
                    has(bits, page) ? row[page] : NONE);
        }
        due("wasted(0, " + bits + ", " + over + ", " + i + ")", x().wasted(0, bits, over, i), row[pages.size()]);
    }
}
