import java.math.BigDecimal;
import java.math.RoundingMode;
import java.util.ArrayList;
import java.util.HashMap;
import java.util.List;
import java.util.Map;
import java.util.NoSuchElementException;
import java.util.TreeMap;
import java.util.TreeSet;

/**
 * A second PotBook, written from the document for tests alone: slow, without rows or caches, and
 * by other ways (signs one by one instead of a descent, trees instead of steps, all ways tried).
 */
public final class SlowBook {
    record Thing(int wet, int sweet, int firm, boolean flesh, int from, int to, TreeMap<Integer, Integer> sizes) {
        boolean had(int month) {
            for (int m = from; ; m = m % 12 + 1) {
                if (m == month) {
                    return true;
                }
                if (m == to) {
                    return false;
                }
            }
        }

        int size(int year) {
            if (sizes.isEmpty()) {
                return 10;
            }
            Map.Entry<Integer, Integer> lo = sizes.floorEntry(year);
            Map.Entry<Integer, Integer> hi = sizes.ceilingEntry(year);
            if (lo == null) {
                return hi.getValue();
            }
            if (hi == null || hi.getKey().equals(lo.getKey())) {
                return lo.getValue();
            }
            int difference = hi.getValue() - lo.getValue();
            return lo.getValue() + new BigDecimal(difference * (year - lo.getKey()))
                    .divide(new BigDecimal(hi.getKey() - lo.getKey()), 0, RoundingMode.DOWN).intValue();
        }
    }

    /** THINGS that are not told are LEFT OUT. */
    static final class Page {
        List<Integer> things = new ArrayList<>();
        Map<Integer, int[]> told = new HashMap<>();
        StringBuilder acts = new StringBuilder();
        int writer;

        TreeSet<Integer> set() {
            return new TreeSet<>(things);
        }

        TreeSet<Integer> left() {
            TreeSet<Integer> out = set();
            out.removeAll(told.keySet());
            return out;
        }

        int acts(char c) {
            return (int) acts.chars().filter(x -> x == c).count();
        }
    }

    record Hold(int page, int law, int least, int most) { }

    record Trial(int law, int worth, boolean stood) { }

    static final class Book {
        int from;
        int reads = -1;
    }

    static final class Day {
        int month;
        boolean fish;
        int[] bought = new int[12];
    }

    String tape = "";
    List<Thing> things = new ArrayList<>();
    List<Page> pages = new ArrayList<>();
    List<Node> laws = new ArrayList<>();
    List<Hold> holds = new ArrayList<>();
    List<Trial> trials = new ArrayList<>();
    List<Book> books = new ArrayList<>();
    List<Day> days = new ArrayList<>();
    int[][] slips = new int[8][8];
    int most = 6;
    private Map<Integer, List<int[]>> laidOut = new HashMap<>();

    public SlowBook() {
        for (int i = 0; i < 64; i++) {
            slips[i / 8][i % 8] = i / 8 == i % 8 ? 0 : 10;
        }
    }

    static int bits(Iterable<Integer> of) {
        int all = 0;
        for (int k : of) {
            all |= 1 << k;
        }
        return all;
    }

    static boolean in(int k, List<?> of) {
        return k >= 0 && k < of.size();
    }

    static boolean in(int k, int a, int b) {
        return a <= k && k <= b;
    }

    public int feed(int a, int b, int c, int d, int e) {
        StringBuilder more = new StringBuilder(tape);
        for (int n : new int[] {a, b, c, d, e}) {
            for (byte v : java.nio.ByteBuffer.allocate(4).putInt(n).array()) {
                if (v != 0) {
                    more.append((char) (v & 255));
                }
            }
        }
        if (more.length() > 120) {
            return -1;
        }
        tape = more.toString();
        return tape.length();
    }

    public boolean end(int n) {
        if (!in(n, 0, tape.length())) {
            return false;
        }
        tape = tape.substring(0, n);
        return true;
    }

    public int fault(int sort) {
        return sort == 0 ? pageFault(tape, null) : sort == 1 ? lawFault(tape) : -2;
    }

    public int text(int sort) {
        if (sort == 0 && pages.size() < 16) {
            Page p = new Page();
            if (pageFault(tape, p) < 0) {
                tape = "";
                pages.add(p);
                return pages.size() - 1;
            }
        }
        if (sort == 1 && laws.size() < 6 && lawFault(tape) < 0) {
            laws.add(new Parse(tape).law());
            tape = "";
            return laws.size() - 1;
        }
        return -1;
    }

    // ---- FAULT of a PAGE, sign by sign

    enum At { THING, NAMED, LOW, LOWED, HIGH_COMES, HIGH, HIGHED, ACT, ACTED, TIMED }

    int pageFault(String t, Page out) {
        Page p = out == null ? new Page() : out;
        At at = At.THING;
        int acts = 0;
        int digits = 0;
        int v = 0;
        int low = 0;
        int last = -1;
        for (int i = 0; i <= t.length(); i++) {
            char c = i < t.length() ? t.charAt(i) : '$';
            boolean end = i == t.length();
            boolean digit = !end && c >= '0' && c <= '9';
            if ((at == At.LOW || at == At.HIGH) && !digit) {
                if (v == 0 || at == At.HIGH && v < low) {
                    return i - 1;
                }
                if (at == At.LOW) {
                    low = v;
                }
                p.told.put(last, new int[] {low, v});
                at = at == At.LOW ? At.LOWED : At.HIGHED;
            }
            if (!end && c == ' ') {
                continue;
            }
            switch (at) {
                case THING -> {
                    last = c - 'a';
                    if (end || !in(last, things) || p.things.contains(last) || p.things.size() == 8) {
                        return i;
                    }
                    p.things.add(last);
                    at = At.NAMED;
                }
                case NAMED, LOWED, HIGHED -> {
                    if (end) {
                        return -1;
                    }
                    if (at == At.NAMED && digit) {
                        at = At.LOW;
                        v = c - '0';
                        digits = 1;
                    } else if (at == At.LOWED && c == '-') {
                        at = At.HIGH_COMES;
                    } else if (c == ',') {
                        at = At.THING;
                    } else if (c == ';') {
                        at = At.ACT;
                    } else {
                        return i;
                    }
                }
                case LOW, HIGH -> {
                    if (++digits > 2) {
                        return i;
                    }
                    v = 10 * v + c - '0';
                }
                case HIGH_COMES -> {
                    if (!digit) {
                        return i;
                    }
                    at = At.HIGH;
                    v = c - '0';
                    digits = 1;
                }
                default -> {
                    if (end && at != At.ACT) {
                        return -1;
                    }
                    if (at == At.ACTED && digit && c != '0') {
                        p.acts.append(String.valueOf(p.acts.charAt(p.acts.length() - 1)).repeat(c - '1'));
                        at = At.TIMED;
                    } else if (!end && "BRTS".indexOf(c) >= 0 && acts < 8) {
                        p.acts.append(c);
                        acts++;
                        at = At.ACTED;
                    } else {
                        return i;
                    }
                }
            }
        }
        throw new IllegalStateException();
    }

    // ---- FAULT of a LAW, sign by sign

    int lawFault(String t) {
        StringBuilder open = new StringBuilder();
        String want = "y"; // y : clause unit atom number behind done
        String side = "";  // open left right plain
        int digits = 0;
        for (int i = 0; i <= t.length(); i++) {
            boolean end = i == t.length();
            char c = end ? '$' : t.charAt(i);
            boolean digit = c >= '0' && c <= '9';
            if (want.equals("number")) {
                if (digit) {
                    if (++digits > 4) {
                        return i;
                    }
                    continue;
                }
                want = "behind";
            }
            if (c == ' ') {
                continue;
            }
            boolean inSum = open.length() > 0 && open.charAt(open.length() - 1) == '[';
            switch (want) {
                case "y" -> {
                    if (c != 'y') {
                        return i;
                    }
                    want = ":";
                }
                case ":" -> {
                    if (c != ':') {
                        return i;
                    }
                    want = "clause";
                }
                case "clause", "unit", "atom" -> {
                    if ((c == '(' || c == '!') && !want.equals("atom")) {
                        if (open.length() == 6) {
                            return i;
                        }
                        open.append(c);
                        want = "unit";
                        break;
                    }
                    if (want.equals("clause")) {
                        side = "open";
                    } else if (want.equals("unit")) {
                        side = "left";
                    }
                    if (c == '[') {
                        if (open.length() == 6) {
                            return i;
                        }
                        open.append(c);
                        want = "atom";
                    } else if (digit) {
                        digits = 1;
                        want = "number";
                    } else if ("wsfnbrtuk".indexOf(c) >= 0) {
                        want = "behind";
                    } else {
                        return i;
                    }
                }
                case "behind" -> {
                    if ("+-*/".indexOf(c) >= 0) {
                        want = "atom";
                    } else if (c == ']') {
                        if (!inSum) {
                            return i;
                        }
                        open.setLength(open.length() - 1);
                    } else if (inSum) {
                        return i;
                    } else if ("=<>".indexOf(c) >= 0 && (side.equals("open") || side.equals("left"))) {
                        side = "right";
                        want = "atom";
                    } else if (side.equals("open") || side.equals("plain")) {
                        if (end) {
                            return -1;
                        }
                        if (c != ';') {
                            return i;
                        }
                        want = "y";
                    } else if (side.equals("right")) {
                        want = "done";
                        i--;
                    } else {
                        return i;
                    }
                }
                default -> {
                    while (open.length() > 0 && open.charAt(open.length() - 1) == '!') {
                        open.setLength(open.length() - 1);
                    }
                    if (c == '&' || c == '|') {
                        want = "unit";
                    } else if (c == ')' && open.length() > 0) {
                        open.setLength(open.length() - 1);
                    } else if (c == '?' && open.length() == 0) {
                        want = "atom";
                        side = "plain";
                    } else {
                        return i;
                    }
                }
            }
        }
        throw new IllegalStateException();
    }

    // ---- LAWS as trees

    interface Node {
        long value(Map<Character, Long> letters);
    }

    static long cut(long v) {
        return Math.max(-1000000L, Math.min(1000000L, v));
    }

    static final class Parse {
        private final String t;
        private int i;

        Parse(String t) {
            this.t = t.replace(" ", "");
        }

        char c() {
            return i < t.length() ? t.charAt(i) : '$';
        }

        Node law() {
            List<Node[]> clauses = new ArrayList<>();
            for (String clause : t.split(";")) {
                int mark = clause.indexOf('?');
                Node condition = mark < 0 ? null : new Parse(clause.substring(2, mark)).condition();
                clauses.add(new Node[] {condition, new Parse(clause.substring(Math.max(2, mark + 1))).sum()});
            }
            return letters -> {
                for (Node[] clause : clauses) {
                    if (clause[0] == null || clause[0].value(letters) != 0) {
                        return clause[1].value(letters);
                    }
                }
                return 0;
            };
        }

        Node condition() {
            Node a = truth();
            while (c() == '|') {
                i++;
                Node l = a;
                Node r = truth();
                a = x -> l.value(x) != 0 || r.value(x) != 0 ? 1 : 0;
            }
            return a;
        }

        Node truth() {
            Node a = unit();
            while (c() == '&') {
                i++;
                Node l = a;
                Node r = unit();
                a = x -> l.value(x) != 0 && r.value(x) != 0 ? 1 : 0;
            }
            return a;
        }

        Node unit() {
            if (c() == '!') {
                i++;
                Node a = unit();
                return x -> a.value(x) == 0 ? 1 : 0;
            }
            if (c() == '(') {
                i++;
                Node a = condition();
                i++;
                return a;
            }
            Node l = sum();
            char sign = t.charAt(i++);
            Node r = sum();
            return x -> {
                int way = Long.compare(l.value(x), r.value(x));
                return (sign == '=' ? way == 0 : sign == '<' ? way < 0 : way > 0) ? 1 : 0;
            };
        }

        Node sum() {
            Node a = term();
            while (c() == '+' || c() == '-') {
                int by = t.charAt(i++) == '+' ? 1 : -1;
                Node l = a;
                Node r = term();
                a = x -> cut(l.value(x) + by * r.value(x));
            }
            return a;
        }

        Node term() {
            Node a = atom();
            while (c() == '*' || c() == '/') {
                boolean times = t.charAt(i++) == '*';
                Node l = a;
                Node r = atom();
                a = x -> times ? cut(l.value(x) * r.value(x)) : r.value(x) == 0 ? 0 : l.value(x) / r.value(x);
            }
            return a;
        }

        Node atom() {
            if (c() == '[') {
                i++;
                Node a = sum();
                i++;
                return a;
            }
            if (Character.isDigit(c())) {
                long v = 0;
                while (Character.isDigit(c())) {
                    v = 10 * v + t.charAt(i++) - '0';
                }
                long told = v;
                return x -> told;
            }
            char letter = t.charAt(i++);
            return x -> x.get(letter);
        }
    }

    // ---- THINGS

    public int thing(int wet, int sweet, int firm, boolean flesh, int from, int to) {
        for (int v : new int[] {wet, sweet, firm}) {
            if (!in(v, 0, 99)) {
                return -1;
            }
        }
        if (!in(from, 1, 12) || !in(to, 1, 12) || things.size() == 12) {
            return -1;
        }
        laidOut.clear();
        things.add(new Thing(wet, sweet, firm, flesh, from, to, new TreeMap<>()));
        return things.size() - 1;
    }

    public int sized(int thing, int year, int size) {
        if (!in(thing, things) || !in(year, 1200, 1999) || !in(size, 1, 999)) {
            return -1;
        }
        TreeMap<Integer, Integer> sizes = things.get(thing).sizes();
        if (sizes.size() == 6 || !sizes.isEmpty() && sizes.lastKey() >= year) {
            return -1;
        }
        sizes.put(year, size);
        return sizes.size();
    }

    public int size(int thing, int year) {
        return in(thing, things) && in(year, 1200, 1999) ? things.get(thing).size(year) : -1;
    }

    // ---- PAGES, DISHES

    public int page(int page, int what) {
        if (!in(page, pages) || !in(what, 0, 3)) {
            throw new NoSuchElementException();
        }
        Page p = pages.get(page);
        return new int[] {bits(p.things), p.acts.length(), bits(p.left()), p.writer}[what];
    }

    public boolean most(int v) {
        if (!in(v, 1, 20)) {
            return false;
        }
        most = v;
        laidOut.clear();
        return true;
    }

    public int hold(int page, int law, int least, int most) {
        boolean far = Math.abs((long) least) > 1000000 || Math.abs((long) most) > 1000000;
        if (!in(page, pages) || !in(law, laws) || far || most < least || holds.size() == 20) {
            return -1;
        }
        holds.add(new Hold(page, law, least, most));
        laidOut.clear();
        return holds.size();
    }

    /** PARTS by THING, of each DISH; null: not told, no such PAGE. */
    List<int[]> lay(int page) {
        if (!in(page, pages)) {
            return null;
        }
        if (!laidOut.containsKey(page)) {
            laidOut.put(page, layAnew(page));
        }
        return laidOut.get(page);
    }

    private List<int[]> layAnew(int page) {
        Page p = pages.get(page);
        List<int[]> all = new ArrayList<>();
        all.add(new int[12]);
        for (int t : p.things) {
            int[] told = p.told.getOrDefault(t, new int[] {1, most});
            List<int[]> more = new ArrayList<>();
            for (int[] d : all) {
                for (int v = told[0]; v <= told[1]; v++) {
                    int[] e = d.clone();
                    e[t] = v;
                    more.add(e);
                }
                if (more.size() > 5000) {
                    return null;
                }
            }
            all = more;
        }
        all.removeIf(d -> {
            for (Hold h : holds) {
                if (h.page() == page && !in((int) value(page, d, h.law()), h.least(), h.most())) {
                    return true;
                }
            }
            return false;
        });
        return all;
    }

    long value(int page, int[] dish, int law) {
        Page p = pages.get(page);
        Map<Character, Long> x = new HashMap<>();
        long w = 0;
        long s = 0;
        long f = 0;
        long n = 0;
        long k = 0;
        for (int t : p.things) {
            w += dish[t] * things.get(t).wet();
            s += dish[t] * things.get(t).sweet();
            f += dish[t] * things.get(t).firm();
            n += dish[t];
            k = things.get(t).flesh() ? 1 : k;
        }
        x.put('w', w);
        x.put('s', s);
        x.put('f', f);
        x.put('n', n);
        x.put('k', k);
        x.put('b', (long) p.acts('B'));
        x.put('r', (long) p.acts('R'));
        x.put('t', (long) p.acts('T'));
        x.put('u', (long) p.acts('S'));
        return laws.get(law).value(x);
    }

    int[] at(int page, int i) {
        List<int[]> all = lay(page);
        return all == null || !in(i, all) ? null : all.get(i);
    }

    boolean some(int page) {
        return lay(page) != null && !lay(page).isEmpty();
    }

    public int dishes(int page) {
        return lay(page) == null ? -1 : lay(page).size();
    }

    public int dish(int page, int i, int thing) {
        return at(page, i) == null || !in(thing, things) ? -1 : at(page, i)[thing];
    }

    public int span(int page, int thing, int what) {
        if (!some(page) || !in(what, 0, 1) || !pages.get(page).things.contains(thing)) {
            return -1;
        }
        var all = lay(page).stream().mapToInt(d -> d[thing]);
        return what == 0 ? all.min().getAsInt() : all.max().getAsInt();
    }

    public int shared(int page) {
        if (!some(page)) {
            return -1;
        }
        int out = 0;
        for (int t : pages.get(page).things) {
            if (lay(page).stream().allMatch(d -> d[t] == lay(page).get(0)[t])) {
                out |= 1 << t;
            }
        }
        return out;
    }

    public int worth(int page, int i, int law) {
        return at(page, i) == null || !in(law, laws) ? -10000000 : (int) value(page, at(page, i), law);
    }

    public int range(int page, int law, int what) {
        if (!some(page) || !in(law, laws) || !in(what, 0, 1)) {
            return -10000000;
        }
        var all = lay(page).stream().mapToInt(d -> (int) value(page, d, law)).sorted().toArray();
        return what == 0 ? all[0] : all[all.length - 1];
    }

    public int weigh(int page) {
        if (!some(page)) {
            return -1;
        }
        long best = Long.MAX_VALUE;
        int which = -1;
        for (int t : pages.get(page).things) {
            long worst = 0;
            for (int v = 1; v <= 99; v++) {
                int told = v;
                worst = Math.max(worst, lay(page).stream().filter(d -> d[t] == told).count());
            }
            if (worst < best) {
                best = worst;
                which = t;
            }
        }
        return which;
    }

    // ---- TRIALS

    public int trial(int law, int worth, boolean stood) {
        if (!in(law, laws) || !in(worth, -9999, 9999) || trials.size() == 20) {
            return -1;
        }
        trials.add(new Trial(law, worth, stood));
        return trials.size();
    }

    int verdict(int law, long worth) {
        boolean s = trials.stream().anyMatch(t -> t.law() == law && t.stood() && worth >= t.worth());
        boolean f = trials.stream().anyMatch(t -> t.law() == law && !t.stood() && worth <= t.worth());
        return s && !f ? 1 : f && !s ? 0 : -1;
    }

    public int stands(int page, int i, int law) {
        return at(page, i) == null || !in(law, laws) ? -1 : verdict(law, value(page, at(page, i), law));
    }

    public int stand(int page, int law, int stood) {
        if (lay(page) == null || !in(law, laws) || !in(stood, 0, 1)) {
            return -1;
        }
        return (int) lay(page).stream().filter(d -> verdict(law, value(page, d, law)) == stood).count();
    }

    // ---- BOOKS

    public int book(int from) {
        if (from != -1 && !in(from, books) || books.size() == 12) {
            return -1;
        }
        Book b = new Book();
        b.from = from;
        books.add(b);
        return books.size() - 1;
    }

    public boolean slip(int one, int other, int cost) {
        if (!in(one, 0, 7) || !in(other, 0, 7) || one == other || !in(cost, 0, 99)) {
            return false;
        }
        slips[one][other] = cost;
        return true;
    }

    public boolean reads(int book, int word) {
        if (!in(book, books) || !in(word, -1, 7)) {
            return false;
        }
        books.get(book).reads = word;
        return true;
    }

    /** The least cost and the ways of all that is copied from a BOOK, if it reads so. */
    long[] below(int book, int word) {
        long[] all = {0, 1};
        for (int c = book + 1; c < books.size(); c++) {
            if (books.get(c).from == book) {
                TreeMap<Long, Long> ways = new TreeMap<>();
                for (int w = 0; w < 8; w++) {
                    if (books.get(c).reads == -1 || books.get(c).reads == w) {
                        long[] sub = below(c, w);
                        ways.merge(slips[word][w] + sub[0], sub[1], Long::sum);
                    }
                }
                all[0] += ways.firstKey();
                all[1] *= ways.firstEntry().getValue();
            }
        }
        return all;
    }

    public int cost(int word) {
        return in(word, 0, 7) ? (int) below(-1, word)[0] : -1;
    }

    public long ways(int word) {
        return in(word, 0, 7) ? below(-1, word)[1] : -1;
    }

    public int first() {
        int best = 0;
        for (int w = 1; w < 8; w++) {
            best = cost(w) < cost(best) ? w : best;
        }
        return best;
    }

    /** A WORD could be read if fixing it there makes nothing dearer. */
    public int could(int book) {
        if (!in(book, books)) {
            return -1;
        }
        int told = books.get(book).reads;
        int least = cost(first());
        int out = 0;
        for (int w = 0; w < 8; w++) {
            if (told == -1 || told == w) {
                books.get(book).reads = w;
                out |= cost(first()) == least ? 1 << w : 0;
            }
        }
        books.get(book).reads = told;
        return out;
    }

    // ---- DAYS, MENUS

    public int day(int month, boolean fish) {
        if (!in(month, 1, 12) || days.size() == 10) {
            return -1;
        }
        Day d = new Day();
        d.month = month;
        d.fish = fish;
        days.add(d);
        return days.size() - 1;
    }

    public boolean bought(int day, int thing, int amount) {
        if (!in(day, days) || !in(thing, things) || !in(amount, 0, 999)) {
            return false;
        }
        days.get(day).bought[thing] = amount;
        return true;
    }

    public int may(int day, int page) {
        if (!in(day, days) || !in(page, pages)) {
            return -1;
        }
        if (dishes(page) != 1) {
            return 0;
        }
        for (int t : pages.get(page).things) {
            Thing thing = things.get(t);
            if (thing.flesh() && days.get(day).fish || !thing.had(days.get(day).month)) {
                return 0;
            }
        }
        return 1;
    }

    static List<Integer> list(int bits) {
        List<Integer> out = new ArrayList<>();
        for (int k = 0; k < 31; k++) {
            if ((bits >> k & 1) != 0) {
                out.add(k);
            }
        }
        return out;
    }

    /** Messes by PAGE, what is wasted behind them; null: no such ones. */
    List<int[]> menus(int day, int bits, int over) {
        if (!in(day, days) || bits <= 0 || bits >= 1L << pages.size() || !in(over, 0, 99) || list(bits).size() > 5) {
            return null;
        }
        TreeSet<Integer> of = new TreeSet<>();
        list(bits).forEach(p -> of.addAll(pages.get(p).things));
        List<int[]> all = new ArrayList<>();
        all.add(new int[17]);
        for (int p : list(bits)) {
            List<int[]> more = new ArrayList<>();
            for (int[] m : all) {
                for (int v = 0; v <= (may(day, p) == 1 ? 9 : 0); v++) {
                    int[] n = m.clone();
                    n[p] = v;
                    more.add(n);
                }
            }
            all = more;
        }
        all.removeIf(m -> {
            for (int t : of) {
                int used = 0;
                for (int p : list(bits)) {
                    used += m[p] == 0 ? 0 : m[p] * lay(p).get(0)[t];
                }
                int over1 = days.get(day).bought[t] - used;
                if (!in(over1, 0, over)) {
                    return true;
                }
                m[16] += over1;
            }
            return false;
        });
        return all;
    }

    public int menu(int day, int pages, int over, int what) {
        List<int[]> all = menus(day, pages, over);
        if (all == null || !in(what, 0, 4)) {
            return -1;
        }
        int every = all.isEmpty() ? 0 : -1 & 0xffff;
        int some = 0;
        int few = -1;
        int many = -1;
        for (int[] m : all) {
            int b = 0;
            int n = 0;
            for (int p = 0; p < 16; p++) {
                n += m[p];
                b |= m[p] > 0 ? 1 << p : 0;
            }
            every &= b;
            some |= b;
            few = few < 0 ? n : Math.min(few, n);
            many = Math.max(many, n);
        }
        return new int[] {all.size(), every, some, few, many}[what];
    }

    public int messes(int day, int pages, int over, int i, int page) {
        List<int[]> all = menus(day, pages, over);
        return all == null || !in(i, all) || !list(pages).contains(page) ? -1 : all.get(i)[page];
    }

    public int wasted(int day, int pages, int over, int i) {
        List<int[]> all = menus(day, pages, over);
        return all == null || !in(i, all) ? -1 : all.get(i)[16];
    }

    public int lean(int day, int pages, int over, int what) {
        List<int[]> all = menus(day, pages, over);
        if (all == null || all.isEmpty() || !in(what, 0, 2)) {
            return -1;
        }
        int least = all.stream().mapToInt(m -> m[16]).min().getAsInt();
        int lowest = 0;
        while (all.get(lowest)[16] != least) {
            lowest++;
        }
        return new int[] {(int) all.stream().filter(m -> m[16] == least).count(), lowest, least}[what];
    }

    // ---- kin

    public int months(int page) {
        if (!in(page, pages)) {
            return -1;
        }
        int out = 0;
        for (int m = 1; m <= 12; m++) {
            int month = m;
            out |= pages.get(page).things.stream().allMatch(t -> things.get(t).had(month)) ? 1 << (m - 1) : 0;
        }
        return out;
    }

    static int edits(String a, String b) {
        int[][] d = new int[a.length() + 1][b.length() + 1];
        for (int i = a.length(); i >= 0; i--) {
            for (int j = b.length(); j >= 0; j--) {
                if (i == a.length() || j == b.length()) {
                    d[i][j] = a.length() - i + b.length() - j;
                } else if (a.charAt(i) == b.charAt(j)) {
                    d[i][j] = d[i + 1][j + 1];
                } else {
                    d[i][j] = 1 + Math.min(d[i + 1][j + 1], Math.min(d[i + 1][j], d[i][j + 1]));
                }
            }
        }
        return d[0][0];
    }

    public int far(int one, int other) {
        if (!in(one, pages) || !in(other, pages)) {
            return -1;
        }
        TreeSet<Integer> both = pages.get(one).set();
        both.retainAll(pages.get(other).set());
        return pages.get(one).things.size() + pages.get(other).things.size() - 2 * both.size()
                + edits(pages.get(one).acts.toString(), pages.get(other).acts.toString());
    }

    public int came(int page) {
        if (!in(page, pages) || page == 0) {
            return -1;
        }
        int best = 0;
        for (int p = 1; p < page; p++) {
            best = far(page, p) < far(page, best) ? p : best;
        }
        return best;
    }

    public int tree() {
        List<int[]> all = new ArrayList<>();
        for (int a = 0; a < pages.size(); a++) {
            for (int b = 0; b < a; b++) {
                all.add(new int[] {far(a, b), a, b});
            }
        }
        all.sort((x, y) -> x[0] - y[0]);
        int[] group = new int[16];
        for (int k = 0; k < 16; k++) {
            group[k] = k;
        }
        int sum = 0;
        for (int[] e : all) {
            int old = group[e[1]];
            int now = group[e[2]];
            if (old != now) {
                sum += e[0];
                for (int k = 0; k < 16; k++) {
                    group[k] = group[k] == old ? now : group[k];
                }
            }
        }
        return sum;
    }

    public boolean wrote(int page, int writer) {
        if (!in(page, pages) || !in(writer, 0, 5)) {
            return false;
        }
        pages.get(page).writer = writer;
        return true;
    }

    public int leaves(int writer, int thing, int what) {
        if (!in(writer, 0, 5) || !in(thing, things) || !in(what, 0, 1)) {
            return -1;
        }
        return (int) pages.stream().filter(p -> p.writer == writer && p.things.contains(thing)
                && p.told.containsKey(thing) == (what == 1)).count();
    }

    public int twice(int writer) {
        if (!in(writer, 0, 5)) {
            return -1;
        }
        int n = 0;
        for (Page p : pages) {
            for (Page q : pages) {
                boolean alike = p != q && p.writer == writer && q.writer == writer && p.set().equals(q.set());
                if (alike && pages.indexOf(p) < pages.indexOf(q)
                        && p.things.stream().anyMatch(t -> p.told.containsKey(t) != q.told.containsKey(t))) {
                    n++;
                }
            }
        }
        return n;
    }

    // ---- a DISH

    int heft(int[] d, int year) {
        int all = 0;
        for (int t = 0; t < things.size(); t++) {
            all += d[t] * things.get(t).size(year);
        }
        return all;
    }

    public int weight(int page, int i, int year) {
        return at(page, i) == null || !in(year, 1200, 1999) ? -1 : heft(at(page, i), year);
    }

    public int serves(int page, int year, int each, int what) {
        if (!some(page) || !in(year, 1200, 1999) || !in(each, 1, 9999) || !in(what, 0, 1)) {
            return -1;
        }
        int[] all = lay(page).stream().mapToInt(d -> heft(d, year) / each).sorted().toArray();
        return what == 0 ? all[0] : all[all.length - 1];
    }

    public int boil(int page, int i, int pot, int fire) {
        if (at(page, i) == null || !in(pot, 1, 99) || !in(fire, 1, 99)) {
            return -1;
        }
        int wet = 0;
        for (int t = 0; t < things.size(); t++) {
            wet += at(page, i)[t] * things.get(t).wet();
        }
        int heat = 10;
        int minutes = 0;
        while (heat < 100) {
            heat = heat + 100 * fire / (10 * pot + wet) - heat / 25;
            if (++minutes > 200) {
                return -1;
            }
        }
        return minutes;
    }

    // ---- what came from what

    public int changed(int page, int what) {
        if (came(page) < 0 || !in(what, 0, 3)) {
            return -1;
        }
        Page p = pages.get(page);
        Page q = pages.get(came(page));
        TreeSet<Integer> out = new TreeSet<>();
        if (what == 3) {
            return edits(p.acts.toString(), q.acts.toString());
        }
        if (what == 2) {
            for (int t : p.things) {
                if (q.things.contains(t) && !java.util.Arrays.equals(p.told.get(t), q.told.get(t))) {
                    out.add(t);
                }
            }
            return bits(out);
        }
        out.addAll(what == 0 ? p.things : q.things);
        out.removeAll(what == 0 ? q.things : p.things);
        return bits(out);
    }

    List<Integer> lineOf(int page) {
        List<Integer> out = new ArrayList<>();
        for (int p = page; p >= 0; p = came(p)) {
            out.add(p);
        }
        return out;
    }

    public int line(int page) {
        return in(page, pages) ? lineOf(page).size() - 1 : -1;
    }

    public int stem(int one, int other) {
        if (!in(one, pages) || !in(other, pages)) {
            return -1;
        }
        for (int p : lineOf(one)) {
            if (lineOf(other).contains(p)) {
                return p;
            }
        }
        return -1;
    }

    public int guess(int page, int thing) {
        if (!in(page, pages) || !pages.get(page).left().contains(thing)) {
            return -1;
        }
        List<Integer> told = new ArrayList<>();
        for (Page q : pages) {
            if (q.writer == pages.get(page).writer && q.told.containsKey(thing)) {
                told.add((q.told.get(thing)[0] + q.told.get(thing)[1]) / 2);
            }
        }
        return told.isEmpty() ? -1 : told.stream().mapToInt(v -> v).sum() / told.size();
    }

    public int nearest(int page) {
        if (!some(page)) {
            return -1;
        }
        int best = -1;
        int least = Integer.MAX_VALUE;
        for (int i = 0; i < lay(page).size(); i++) {
            int off = 0;
            boolean any = false;
            for (int t : pages.get(page).left()) {
                int g = guess(page, t);
                any |= g >= 0;
                off += g >= 0 ? Math.abs(g - at(page, i)[t]) : 0;
            }
            if (any && off < least) {
                least = off;
                best = i;
            }
        }
        return best;
    }

    public int lacking(int day, int page, int i, int messes) {
        if (!in(day, days) || at(page, i) == null || !in(messes, 1, 99)) {
            return -1;
        }
        int out = 0;
        for (int t = 0; t < things.size(); t++) {
            out |= at(page, i)[t] * messes > days.get(day).bought[t] ? 1 << t : 0;
        }
        return out;
    }

    public int enough(int day, int page, int i) {
        if (!in(day, days) || at(page, i) == null) {
            return -1;
        }
        int n = 0;
        while (n < 99 && lacking(day, page, i, n + 1) == 0) {
            n++;
        }
        return n;
    }

    public int softer(int page, int one, int other) {
        if (lay(page) == null || lay(page).size() > 300 || !in(one, laws) || !in(other, laws)) {
            return -10000000;
        }
        int lead = 0;
        for (int i = 0; i < lay(page).size(); i++) {
            for (int j = i + 1; j < lay(page).size(); j++) {
                int a = Integer.compare(worth(page, i, one), worth(page, j, one));
                int b = Integer.compare(worth(page, i, other), worth(page, j, other));
                if (a != 0 && b != 0) {
                    lead += a == b ? 1 : -1;
                }
            }
        }
        return lead;
    }

    public int swapped(int page, int one, int other) {
        if (lay(page) == null || one == other || !pages.get(page).things.contains(one)
                || !pages.get(page).things.contains(other)) {
            return -1;
        }
        TreeSet<String> all = new TreeSet<>();
        lay(page).forEach(d -> all.add(java.util.Arrays.toString(d)));
        int n = 0;
        for (int[] d : lay(page)) {
            int[] e = d.clone();
            e[one] = d[other];
            e[other] = d[one];
            n += all.contains(java.util.Arrays.toString(e)) ? 1 : 0;
        }
        return n;
    }

    public int count(int what) {
        int[] all = {pages.size(), laws.size(), things.size(), holds.size(), trials.size(), books.size(), days.size(),
            tape.length(), most};
        return in(what, 0, 8) ? all[what] : -1;
    }
}
