import java.util.ArrayList;
import java.util.HashMap;
import java.util.LinkedHashSet;
import java.util.List;
import java.util.Map;
import java.util.Random;

/**
 * FAULT is the first byte at which no PAGE (no LAW) can go on. Here this is asked of the document's rules
 * themselves, written down as they stand and gone through sign by sign with all ways of reading kept
 * (Earley's way), so that no reader's own order of looking is in it.
 */
public final class FaultTest {
    private static final int ASKED_OF_ONE = 80;
    private static final int WITHIN = 6;

    private final Map<String, List<String[]>> rules = new HashMap<>();
    private final List<String[]> rows = new ArrayList<>();
    private final int sort;
    private final int things;
    private PotBook x;
    private int asked = ASKED_OF_ONE;

    private FaultTest(int sort, int things) {
        this.sort = sort;
        this.things = things;
        if (sort == 0) {
            pageRules();
        } else {
            lawRules();
        }
    }

    public static void main(String[] args) {
        shortPages();
        longPages();
        shortLaws();
        longLaws();
        Due.close("FaultTest");
    }

    /** A rule: a name, then what it may be; what stands in { } is a name, all else are signs, one by one. */
    private void rule(String name, String... wholes) {
        for (String whole : wholes) {
            List<String> row = new ArrayList<>(List.of(name));
            for (int k = 0; k < whole.length(); k++) {
                int end = whole.charAt(k) == '{' ? whole.indexOf('}', k) : k;
                row.add(whole.substring(k, end + 1));
                k = end;
            }
            String[] made = row.toArray(new String[0]);
            rules.computeIfAbsent(name, n -> new ArrayList<>()).add(made);
            rows.add(made);
        }
    }

    /** A sign with as many blanks behind it as one likes. */
    private void sign(char... signs) {
        for (char sign : signs) {
            rule("{" + sign + "_}", String.valueOf(sign), "{" + sign + "_} ");
        }
    }

    private void numbers(String... lengths) {
        rule("{digit}", "0", "1", "2", "3", "4", "5", "6", "7", "8", "9");
        rule("{number}", lengths);
        rule("{number_}", "{number}", "{number_} ");
    }

    /** What a PAGE is but for bounds: how many there are, which letters are there already, how great a number is. */
    private void pageRules() {
        numbers("{digit}", "{digit}{digit}");
        sign(',', ';', '-', 'B', 'R', 'T', 'S');
        for (int thing = 0; thing < things; thing++) {
            sign((char) ('a' + thing));
            rule("{letter}", "{" + (char) ('a' + thing) + "_}");
        }
        for (char often = '1'; often <= '9'; often++) {
            sign(often);
            rule("{often}", "{" + often + "_}");
        }
        rule("{text}", "{page}", " {text}");
        rule("{page}", "{things}", "{things}{;_}{acts}");
        rule("{things}", "{thing}", "{things}{,_}{thing}");
        rule("{thing}", "{letter}", "{letter}{number_}", "{letter}{number_}{-_}{number_}");
        rule("{acts}", "{act}", "{acts}{act}");
        rule("{act}", "{kind}", "{kind}{often}");
        rule("{kind}", "{B_}", "{R_}", "{T_}", "{S_}");
    }

    /** What a LAW is, of each kind one for each number of ( [ ! that stand open. */
    private void lawRules() {
        numbers("{digit}", "{digit}{digit}", "{digit}{digit}{digit}", "{digit}{digit}{digit}{digit}");
        sign('y', ':', '?', ';', '|', '&', '!', '(', ')', '=', '<', '>', '+', '-', '*', '/', '[', ']');
        sign('w', 's', 'f', 'n', 'b', 'r', 't', 'u', 'k');
        rule("{letter}", "{w_}", "{s_}", "{f_}", "{n_}", "{b_}", "{r_}", "{t_}", "{u_}", "{k_}");
        rule("{compare}", "{=_}", "{<_}", "{>_}");
        rule("{text}", "{law}", " {text}");
        rule("{law}", "{clause}", "{law}{;_}{clause}");
        rule("{clause}", "{y_}{:_}{sum0}", "{y_}{:_}{condition0}{?_}{sum0}");
        for (int open = 0; open <= WITHIN; open++) {
            String at = open + "}";
            String in = open + 1 + "}";
            rule("{condition" + at, "{truth" + at, "{condition" + at + "{|_}{truth" + at);
            rule("{truth" + at, "{unit" + at, "{truth" + at + "{&_}{unit" + at);
            rule("{unit" + at, "{sum" + at + "{compare}{sum" + at);
            rule("{sum" + at, "{term" + at, "{sum" + at + "{+_}{term" + at, "{sum" + at + "{-_}{term" + at);
            rule("{term" + at, "{atom" + at, "{term" + at + "{*_}{atom" + at, "{term" + at + "{/_}{atom" + at);
            rule("{atom" + at, "{number_}", "{letter}");
            if (open < WITHIN) {
                rule("{unit" + at, "{!_}{unit" + in, "{(_}{condition" + in + "{)_}");
                rule("{atom" + at, "{[_}{sum" + in + "{]_}");
            }
        }
    }

    /** A way of reading: so many parts of a rule are read from a place on. */
    private record Way(int row, int read, int from) {
    }

    /** The ways of reading behind each sign. */
    private final List<List<Way>> ways = new ArrayList<>();

    private void begin() {
        ways.clear();
        LinkedHashSet<Way> first = new LinkedHashSet<>();
        expect("{text}", 0, first);
        ways.add(closed(first));
    }

    private void expect(String name, int at, LinkedHashSet<Way> into) {
        for (int row = 0; row < rows.size(); row++) {
            if (rows.get(row)[0].equals(name)) {
                into.add(new Way(row, 0, at));
            }
        }
    }

    private String next(Way way) {
        String[] row = rows.get(way.row);
        return way.read + 1 < row.length ? row[way.read + 1] : null;
    }

    private List<Way> closed(LinkedHashSet<Way> into) {
        int at = ways.size();
        List<Way> all = new ArrayList<>(into);
        for (int k = 0; k < all.size(); k++) {
            Way way = all.get(k);
            String next = next(way);
            LinkedHashSet<Way> more = new LinkedHashSet<>();
            if (next == null) {
                for (Way open : way.from < at ? ways.get(way.from) : List.<Way>of()) {
                    if (rows.get(way.row)[0].equals(next(open))) {
                        more.add(new Way(open.row, open.read + 1, open.from));
                    }
                }
            } else if (rules.containsKey(next)) {
                expect(next, at, more);
            }
            for (Way found : more) {
                if (into.add(found)) {
                    all.add(found);
                }
            }
        }
        return all;
    }

    /** Goes on by one sign; false, and nothing is changed: none can stand there. */
    private boolean goesOn(char sign) {
        LinkedHashSet<Way> read = new LinkedHashSet<>();
        for (Way way : ways.get(ways.size() - 1)) {
            if (String.valueOf(sign).equals(next(way))) {
                read.add(new Way(way.row, way.read + 1, way.from));
            }
        }
        if (!read.isEmpty()) {
            ways.add(closed(read));
        }
        return !read.isEmpty();
    }

    private void goBack() {
        ways.remove(ways.size() - 1);
    }

    private boolean isWhole() {
        for (Way way : ways.get(ways.size() - 1)) {
            if (way.from == 0 && next(way) == null && rows.get(way.row)[0].equals("{text}")) {
                return true;
            }
        }
        return false;
    }

    /** Where a bound is broken first in what was gone through (the length: nowhere). */
    private static int outOfBounds(String text) {
        int acts = 0;
        int things = 0;
        int least = 0;
        boolean isMost = false;
        for (int k = 0; k < text.length(); k++) {
            char sign = text.charAt(k);
            if (sign >= 'a' && sign <= 'l') {
                things++;
                isMost = false;
                if (things > 8 || text.indexOf(sign) < k) {
                    return k;
                }
            }
            if ("BRTS".indexOf(sign) >= 0) {
                acts++;
                if (acts > 8) {
                    return k;
                }
            }
            isMost |= sign == '-';
            if (Character.isDigit(sign) && acts == 0) {
                int end = k;
                while (end + 1 < text.length() && Character.isDigit(text.charAt(end + 1))) {
                    end++;
                }
                int v = Integer.parseInt(text.substring(k, end + 1));
                if (end - k < 2 && (v == 0 || isMost && v < least)) {
                    return end;
                }
                least = v;
                k = end;
            }
        }
        return text.length();
    }

    /** A text of which all but the last sign could go on (or all of it) has its FAULT where it is due. */
    private void due(String text, int wrongAt) {
        int at = sort == 0 ? Math.min(wrongAt, outOfBounds(text)) : wrongAt;
        boolean isWrong = at < text.length() || !isWhole();
        if (asked >= ASKED_OF_ONE) {
            asked = 0;
            x = new PotBook();
            for (int thing = 0; thing < things; thing++) {
                x.thing(1, 1, 1, false, 1, 12);
            }
        }
        asked++;
        int got = Due.fault(x, text, sort);
        Due.same("fault of \"" + text + "\"", got, isWrong ? at : PotBook.NONE);
    }

    /** All texts from here on of so many signs more; behind a wrong one none is looked at. */
    private void all(String text, int more, String signs) {
        due(text, text.length());
        for (int k = 0; k < signs.length() && more > 0; k++) {
            char sign = signs.charAt(k);
            if (!goesOn(sign)) {
                due(text + sign, text.length());
            } else if (sort == 0 && outOfBounds(text) < text.length() && !Character.isDigit(sign)) {
                due(text + sign, text.length() + 1);
                goBack();
            } else {
                all(text + sign, more - 1, signs);
                goBack();
            }
        }
    }

    private void allFrom(String text, int more, String signs) {
        begin();
        for (int k = 0; k < text.length(); k++) {
            Due.is("\"" + text + "\" can go on", goesOn(text.charAt(k)), true);
        }
        all(text, more, signs);
    }

    private static void shortPages() {
        FaultTest two = new FaultTest(0, 2);
        two.allFrom("", 5, "ab05-,;B1 cx");
        two.allFrom("a", 5, "05-,b; ");
        two.allFrom("a5-", 4, "0459-,;b ");
        two.allFrom("b;", 5, "BRTS190 ;a");
        two.allFrom("a,b 7;S9", 3, "0123456789BRTSab,;- ");
    }

    private static void longPages() {
        Random random = new Random(1);
        FaultTest many = new FaultTest(0, 11);
        for (int k = 0; k < 400; k++) {
            many.walk("", random, k % 2 == 0 ? "abcdefghijkl,,,,,,,,, 12" : "abcd,,0123456789-;BRTS ", 30);
        }
        for (int k = 0; k < 200; k++) {
            many.walk("k5-9;", random, "BRTS123 ", 25);
        }
    }

    private static void shortLaws() {
        FaultTest law = new FaultTest(1, 0);
        law.allFrom("", 3, "y: w1!([=?;");
        law.allFrom("y:", 4, "yw1[](!)=|&?;+* ");
        law.allFrom("y:w<1", 3, "ys0[](!)=>|&?;+-/ ");
        law.allFrom("y:!(k>n", 3, "rt9[](!)=>|&?;+-/ ");
        law.allFrom("y:[[[", 4, "[(!]1=w");
        law.allFrom("y:((!([", 4, "[(!])1=w?");
        law.allFrom("y:u-9", 5, "09+ ");
    }

    private static void longLaws() {
        Random random = new Random(2);
        FaultTest law = new FaultTest(1, 0);
        for (int k = 0; k < 250; k++) {
            law.walk(k % 3 == 0 ? "y:" : "y:" + "(![!(".substring(0, k % 3), random,
                    k % 2 == 0 ? "wsfnbrtuk1290[]()!=<>|&?;y:+-*/ " : "wk1[[[[]]]((((!!!)))===&|?;", 60);
        }
    }

    /** On and on by signs that can stand there, with one that can't looked at beside each. */
    private void walk(String from, Random random, String signs, int more) {
        begin();
        StringBuilder text = new StringBuilder();
        for (int k = 0; k < from.length() && goesOn(from.charAt(k)); k++) {
            text.append(from.charAt(k));
        }
        int tries = 0;
        while (text.length() < from.length() + more && tries < 12) {
            char sign = signs.charAt(random.nextInt(signs.length()));
            if (goesOn(sign)) {
                text.append(sign);
                tries = 0;
            } else {
                due(text.toString() + sign, text.length());
                tries++;
            }
            due(text.toString(), text.length());
            if (sort == 0 && outOfBounds(text.toString()) < text.length() - 2) {
                return;
            }
        }
    }
}
