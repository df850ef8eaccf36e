import java.lang.reflect.InvocationTargetException;
import java.lang.reflect.Method;
import java.util.ArrayList;
import java.util.List;
import java.util.Random;

/** Runs of calls, told by numbered seeds, on a PotBook and on the slow one beside it. */
public final class OracleTest {
    /** Each call of the face and what kinds of arguments it takes; those told more often stand more often. */
    private static final String[] CALLS = {
        "fault s", "fault s", "end n", "sized t y z", "size t y", "page p q", "most m", "hold p l h h",
        "dishes p", "dish p i t", "span p t 2", "shared p", "worth p i l", "range p l 2", "weigh p", "trial l x 1",
        "stands p i l", "stand p l 2", "book b", "slip w w c", "reads b v", "cost w", "ways w", "first", "could b",
        "day M 1", "bought d t a", "bought d t a", "bought d t a", "may d p", "menu d P o 5", "menu d P o 5",
        "messes d P o j p", "wasted d P o j", "lean d P o 3", "months p", "far p p", "came p", "tree", "wrote p r", "leaves r t 2", "twice r",
        "weight p i y", "serves p y e 2", "boil p i H H", "changed p 5", "line p", "stem p p", "guess p t",
        "nearest p", "lacking d p i H", "enough d p i", "softer p l l",
        "swapped p t t", "count C", "thing H H H 1 M M"
    };

    private static final int MARKET = indexOf("day");
    private static final int MARKET_END = indexOf("months");

    private final Random random;
    private final SlowBook slow = new SlowBook();
    private final PotBook quick = new PotBook();
    private final List<String> log = new ArrayList<>();
    private final boolean wide;
    /** Pages with told PARTS alone and THINGS for the whole year, so that there are MENUS. */
    private final boolean market;
    private int wrong;

    private static int indexOf(String name) {
        for (int k = 0; k < CALLS.length; k++) {
            if (CALLS[k].startsWith(name)) {
                return k;
            }
        }
        throw new IllegalArgumentException(name);
    }

    private OracleTest(long seed) {
        random = new Random(seed);
        wide = seed % 5 == 0;
        market = seed % 3 == 1;
    }

    private int upTo(int n) {
        return random.nextInt(n);
    }

    private boolean chance(int percent) {
        return upTo(100) < percent;
    }

    /** Mostly one there is, now and then the bounds and numbers far off. */
    private int near(int n) {
        if (chance(6)) {
            int[] odd = {-1, n, n + 1, -2, 12, 16, Integer.MIN_VALUE, Integer.MAX_VALUE};
            return odd[upTo(odd.length)];
        }
        return n == 0 ? 0 : upTo(n);
    }

    private int edge(int least, int most) {
        if (chance(5)) {
            int[] odd = {least - 1, most + 1, Integer.MIN_VALUE, Integer.MAX_VALUE};
            return odd[upTo(odd.length)];
        }
        return chance(10) ? least : chance(10) ? most : least + upTo(most - least + 1);
    }

    private int bits() {
        if (chance(4)) {
            int[] odd = {0, -1, 1 << slow.pages.size(), Integer.MIN_VALUE, 63, 1 << 31 | 1};
            return odd[upTo(odd.length)];
        }
        int all = 0;
        int most = 1 + upTo(chance(10) ? 6 : 4);
        for (int k = 0; k < most && !slow.pages.isEmpty(); k++) {
            all |= 1 << upTo(slow.pages.size());
        }
        return all;
    }

    private Object argument(char kind, int[] told) {
        switch (kind) {
            case 's': return edge(0, 1);
            case 'n': return edge(0, slow.tape.length());
            case 't': return near(slow.things.size());
            case 'y': return edge(1200, 1999);
            case 'z': return edge(1, 999);
            case 'p': return near(slow.pages.size());
            case 'q': return edge(0, 3);
            case 'm': return chance(60) ? 1 + upTo(4) : edge(1, 20);
            case 'l': return near(slow.laws.size());
            case 'h': return bound(told);
            case 'i': return dishNumber(told);
            case 'x': return chance(70) ? upTo(300) : edge(-9999, 9999);
            case 'b': return chance(20) ? -1 : near(slow.books.size());
            case 'w': return edge(0, 7);
            case 'v': return edge(-1, 7);
            case 'c': return chance(50) ? upTo(4) : edge(0, 99);
            case 'M': return edge(1, 12);
            case 'd': return near(slow.days.size());
            case 'a': return chance(60) ? upTo(40) : edge(0, 999);
            case 'P': return bits();
            case 'o': return chance(60) ? upTo(market ? 40 : 12) : edge(0, 99);
            case 'j': return chance(50) ? upTo(4) : chance(10) ? edge(-1, 99999) : upTo(market ? 60 : 200);
            case 'r': return chance(70) ? upTo(2) : edge(0, 5);
            case 'e': return chance(70) ? 1 + upTo(60) : edge(1, 9999);
            case 'H': return edge(1, 99);
            case 'C': return edge(0, 8);
            case '1': return random.nextBoolean();
            case '2': return edge(0, 1);
            case '3': return edge(0, 2);
            default: return edge(0, 4);
        }
    }

    /** A bound from a WORTH there is, so that HOLDS cut some DISHES and keep some. */
    private int bound(int[] told) {
        if (chance(80) && slow.some(told[0])) {
            int base = slow.worth(told[0], upTo(slow.dishes(told[0])), told[1]);
            return base + upTo(200) * (told[2] == Integer.MIN_VALUE ? -1 : 1);
        }
        return edge(-1000000, 1000000);
    }

    private int dishNumber(int[] told) {
        int page = told[0] >= 0 && told[0] < slow.pages.size() ? told[0] : told[1];
        int n = slow.dishes(page);
        return n > 0 && chance(92) ? upTo(n) : near(Math.max(n, 0));
    }

    private String part() {
        if (market) {
            return "" + (1 + upTo(3));
        }
        int v = 1 + upTo(chance(80) ? 6 : 99);
        String low = (chance(5) && v < 10 ? "0" : "") + v;
        return chance(40) ? low : low + gap() + "-" + gap() + Math.min(99, v + upTo(4));
    }

    private String gap() {
        return chance(7) ? " " : "";
    }

    private String pageText() {
        StringBuilder t = new StringBuilder(gap());
        List<Integer> all = new ArrayList<>();
        for (int k = 0; k < slow.things.size(); k++) {
            all.add(k);
        }
        java.util.Collections.shuffle(all, random);
        int most = market ? 2 : wide ? 8 : chance(70) ? 3 : 5;
        int n = Math.min(1 + upTo(most), all.size());
        for (int k = 0; k < n; k++) {
            t.append(k > 0 ? "," : "").append(gap()).append((char) ('a' + all.get(k)));
            t.append(gap()).append(chance(market ? 97 : wide ? 30 : 55) ? part() : "").append(gap());
        }
        if (chance(60)) {
            t.append(";");
            for (int k = 1 + upTo(chance(90) ? 4 : 8); k > 0; k--) {
                t.append(gap()).append("BRTS".charAt(upTo(4))).append(chance(30) ? "" + (1 + upTo(9)) : "").append(gap());
            }
        }
        return t.toString();
    }

    private String sum(int depth) {
        StringBuilder t = new StringBuilder();
        for (int k = 1 + upTo(3); k > 0; k--) {
            if (chance(20) && depth < 3) {
                t.append('[').append(sum(depth + 1)).append(']');
            } else if (chance(30)) {
                t.append(chance(60) ? upTo(10) : upTo(10000));
            } else {
                t.append("wsfnbrtuk".charAt(upTo(9)));
            }
            t.append(gap()).append(k > 1 ? "+-*/".charAt(upTo(4)) + gap() : "");
        }
        return t.toString();
    }

    private String condition(int depth) {
        StringBuilder t = new StringBuilder();
        for (int k = 1 + upTo(2); k > 0; k--) {
            if (chance(20)) {
                t.append('!');
            }
            if (chance(20) && depth < 3) {
                t.append('(').append(condition(depth + 1)).append(')');
            } else {
                t.append(sum(depth + 1)).append("=<>".charAt(upTo(3))).append(sum(depth + 1));
            }
            t.append(k > 1 ? "&|".charAt(upTo(2)) + gap() : "");
        }
        return t.toString();
    }

    private String lawText() {
        StringBuilder t = new StringBuilder(gap());
        for (int k = 1 + upTo(3); k > 0; k--) {
            t.append('y').append(gap()).append(':').append(gap());
            t.append(chance(50) ? condition(0) + "?" : "").append(sum(0)).append(k > 1 ? ";" : "");
        }
        return t.toString();
    }

    private String broken(String t) {
        StringBuilder b = new StringBuilder(t);
        String signs = "abcdh019-,; BRTSy:?![]()&|=<>+*/wsfnk\u00e9";
        for (int k = 1 + upTo(3); k > 0; k--) {
            int at = upTo(b.length() + 1);
            char c = signs.charAt(upTo(signs.length()));
            switch (upTo(5)) {
                case 0: b.insert(at, c); break;
                case 1: b.setLength(at); break;
                case 2: b.insert(at, String.valueOf("[(!".charAt(upTo(3))).repeat(1 + upTo(8))); break;
                case 3: b.insert(at, "8"); break;
                default: if (at < b.length()) { b.setCharAt(at, c); }
            }
        }
        return b.toString();
    }

    private Object both(String name, Class<?>[] types, Object... values) {
        String line = name + java.util.Arrays.toString(values);
        log.add(line);
        Object a = answer(quick, name, types, values);
        Object b = answer(slow, name, types, values);
        Due.pass();
        if (!a.equals(b)) {
            wrong++;
            log.set(log.size() - 1, line + " answered " + a + ", due is " + b);
        }
        return a;
    }

    private static Object answer(Object of, String name, Class<?>[] types, Object... values) {
        try {
            Method m = of.getClass().getMethod(name, types);
            return m.invoke(of, values);
        } catch (InvocationTargetException e) {
            return "throws " + e.getCause().getClass().getName();
        } catch (ReflectiveOperationException e) {
            throw new IllegalStateException(e);
        }
    }

    private void tell(String text, int sort) {
        Class<?>[] one = {int.class};
        Class<?>[] five = {int.class, int.class, int.class, int.class, int.class};
        if (chance(90)) {
            both("end", one, 0);
        }
        for (int at = 0; at < text.length(); at += 20) {
            Object[] words = new Object[5];
            for (int k = 0; k < 5; k++) {
                int v = 0;
                for (int b = 0; b < 4; b++) {
                    int i = at + 4 * k + b;
                    v = v << 8 | (i < text.length() ? text.charAt(i) & 255 : 0);
                }
                words[k] = v;
            }
            both("feed", five, words);
        }
        both("fault", one, sort);
        both("fault", one, 1 - sort);
        both("text", one, chance(97) ? sort : edge(0, 1));
    }

    private void call(String told) {
        String[] parts = told.split(" ");
        Class<?>[] types = new Class<?>[parts.length - 1];
        Object[] values = new Object[parts.length - 1];
        int[] numbers = {0, 0, Integer.MIN_VALUE, 0, 0, 0, 0};
        for (int k = 0; k < values.length; k++) {
            values[k] = argument(parts[k + 1].charAt(0), numbers);
            types[k] = values[k] instanceof Boolean ? boolean.class : int.class;
            if (parts[0].equals("messes") && k == 4 && chance(85)) {
                values[k] = Integer.numberOfTrailingZeros(numbers[1]);
            }
            if (values[k] instanceof Integer) {
                numbers[k] = (Integer) values[k];
            }
        }
        both(parts[0], types, values);
    }

    private void begin() {
        int n = 1 + upTo(chance(70) ? 5 : 12);
        for (int k = 0; k < n; k++) {
            if (market && chance(80)) {
                Class<?>[] types = {int.class, int.class, int.class, boolean.class, int.class, int.class};
                both("thing", types, 3 * k, k, 2 * k, k == 3, 1, 12);
            } else {
                call("thing H H H 1 M M");
            }
        }
        for (int k = 0; k < n; k++) {
            call("sized t y z");
        }
    }

    private int run() {
        begin();
        while (log.size() < 500) {
            int pick = upTo(100);
            if (pick < 8) {
                String t = pageText();
                tell(chance(25) ? broken(t) : t, 0);
            } else if (pick < 12) {
                String t = lawText();
                tell(chance(25) ? broken(t) : t, 1);
            } else if (pick < 15) {
                for (int k = 0; k < 3; k++) {
                    call("book b");
                    call("reads b v");
                }
            } else {
                int least = market && chance(50) ? MARKET : 0;
                call(CALLS[least + upTo((least > 0 ? MARKET_END : CALLS.length) - least)]);
            }
        }
        return wrong;
    }

    public static void main(String[] args) {
        int from = args.length > 0 ? Integer.parseInt(args[0]) : 1;
        int to = args.length > 1 ? Integer.parseInt(args[1]) : 150;
        for (int seed = from; seed <= to; seed++) {
            OracleTest t = new OracleTest(seed);
            if (t.run() > 0) {
                System.out.println("seed " + seed + ":");
                int shown = 0;
                for (String line : t.log) {
                    if (line.contains("answered") && shown++ < 5 || args.length > 2) {
                        System.out.println("  " + line);
                    }
                }
                Due.fail();
            }
        }
        Due.close("OracleTest");
    }
}
