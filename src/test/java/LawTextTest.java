import java.util.ArrayList;
import java.util.List;

/** What "Terms" says of LAWS as TEXTS, sentence by sentence: what is one, where the FAULT is, what WORTH it has. */
public final class LawTextTest {
    private static final int NONE = -1;
    private static final int HIDDEN = -10000000;
    private static final String DIGITS = "0123456789";
    private static final String LETTERS = "wsfnbrtuk";

    public static void main(String[] args) {
        clauses();
        numbers();
        letters();
        everyNextByteOfSums();
        everyNextByteOfConditions();
        everyEnd();
        blanksBetweenAll();
        sixWithinOneAnother();
        withinOneAnotherAlone();
        conditionsBehindBrackets();
        signsInTheirBounds();
        boundsInConditions();
        division();
        clausesInTheirOrder();
        conditionsOfBothKinds();
        lettersOfDishes();
        nothingIsKeptOfFaults();
        Due.close("LawTextTest");
    }

    private static void due(String text, int at) {
        Due.same("4: " + text, Due.fault(new PotBook(), text, 1), at);
    }

    /** A DISH of PARTS 9 alone, without ACTS: n is 9, w 18, s 27, f 36. */
    private static void worth(String law, int due) {
        PotBook x = new PotBook();
        x.thing(2, 3, 4, false, 1, 12);
        Due.tell(x, "a9", 0);
        Due.same("5: " + law, Due.tell(x, law, 1), 0);
        Due.same("16: " + law, x.worth(0, 0, 0), due);
        Due.same("17: the least of " + law, x.range(0, 0, 0), due);
        Due.same("17: the greatest of " + law, x.range(0, 0, 1), due);
    }

    /** CLAUSES with ; between, one at least. */
    private static void clauses() {
        due("", 0);
        due(" ", 1);
        due(";", 0);
        due("y:1", NONE);
        due("y:1;", 4);
        due("y:1; ", 5);
        due("y:1;;", 4);
        due(";y:1", 0);
        due("y:1;y:2", NONE);
        due("y:1y:2", 3);
        String text = "y:1";
        for (int k = 1; k < 30; k++) {
            due(text, NONE);
            text += ";y:" + k % 10;
        }
        due(text, NONE);
    }

    /** A number (1 to 4 digits): a fifth digit is wrong. */
    private static void numbers() {
        for (String v : new String[] {"0", "9", "00", "10", "99", "000", "100", "999", "0000", "1000", "9999"}) {
            due("y:" + v, NONE);
            worth("y:" + v, Integer.parseInt(v));
            due("y:w=" + v + "?" + v, NONE);
        }
        for (String v : new String[] {"00000", "10000", "99999", "00001", "123456", "0000000"}) {
            due("y:" + v, 6);
            due("y:w+" + v, 8);
            due("y:[" + v + "]", 7);
            due("y:w=" + v + "?1", 8);
            due("y:" + v + "=1?1", 6);
            due("y:w=1?" + v, 10);
            due("y:1;y:" + v, 10);
        }
        due("y:1234 5", 7);
        due("y:1 2", 4);
    }

    private static void letters() {
        for (char letter = 1; letter < 256; letter++) {
            boolean isOne = LETTERS.indexOf(letter) >= 0 || DIGITS.indexOf(letter) >= 0;
            boolean opens = "[(! ".indexOf(letter) >= 0;
            due("y:" + letter, isOne ? NONE : opens ? 3 : 2);
            due("y:1-" + letter, isOne ? NONE : letter == '[' || letter == ' ' ? 5 : 4);
        }
    }

    /** FAULT likewise: the first byte at which no LAW can go on (the length, if it ends too early). */
    private static void next(String text, String whole, String open) {
        for (char letter = 1; letter < 256; letter++) {
            int at = text.length();
            int due = whole.indexOf(letter) >= 0 ? NONE : open.indexOf(letter) >= 0 ? at + 1 : at;
            due(text + letter, due);
        }
    }

    private static void everyNextByteOfSums() {
        String atoms = DIGITS + LETTERS;
        next("", "", "y ");
        next("y", "", ": ");
        next("y ", "", ": ");
        next("y:", atoms, "[(! ");
        next("y: ", atoms, "[(! ");
        next("y:w", " ", "+-*/=<>;");
        next("y:5", " " + DIGITS, "+-*/=<>;");
        next("y:5 ", " ", "+-*/=<>;");
        next("y:555", " " + DIGITS, "+-*/=<>;");
        next("y:5555", " ", "+-*/=<>;");
        for (String sign : new String[] {"+", "-", "*", "/"}) {
            next("y:w" + sign, atoms, "[ ");
            next("y:w" + sign + "s", " ", "+-*/=<>;");
            next("y:w=1?s" + sign, atoms, "[ ");
            next("y:w=1?s" + sign + "f", " ", "+-*/;");
        }
        next("y:[", "", atoms + "[ ");
        next("y:[w", "]", "+-*/ ");
        next("y:[w+", "", atoms + "[ ");
        next("y:[w]", " ", "+-*/=<>;");
        next("y:[[w]", "]", "+-*/ ");
        next("y:[w]+[s]", " ", "+-*/=<>;");
        next("y:1;", "", "y ");
        next("y:1;y", "", ": ");
        next("y:1;y:", atoms, "[(! ");
    }

    private static void everyNextByteOfConditions() {
        String atoms = DIGITS + LETTERS;
        for (String sign : new String[] {"=", "<", ">"}) {
            next("y:w" + sign, "", atoms + "[ ");
            next("y:w" + sign + "s", "", "+-*/&|? ");
            next("y:(w" + sign + "s", "", "+-*/&|) ");
            next("y:!w" + sign + "s", "", "+-*/&|? ");
        }
        next("y:w=1", "", DIGITS + "+-*/&|? ");
        next("y:w=[1", "", DIGITS + "+-*/] ");
        next("y:w=[1]", "", "+-*/&|? ");
        next("y:(", "", atoms + "[(! ");
        next("y:(w", "", "+-*/=<> ");
        next("y:(w=1", "", DIGITS + "+-*/&|) ");
        next("y:(w=1)", "", "&|? ");
        next("y:((w=1)", "", "&|) ");
        next("y:(!w=1)", "", "&|? ");
        next("y:!", "", atoms + "[(! ");
        next("y:!w", "", "+-*/=<> ");
        next("y:!(w=1)", "", "&|? ");
        next("y:!!", "", atoms + "[(! ");
        for (String sign : new String[] {"&", "|"}) {
            next("y:w=1" + sign, "", atoms + "[(! ");
            next("y:w=1" + sign + "s", "", "+-*/=<> ");
            next("y:w=1" + sign + "s=1", "", DIGITS + "+-*/&|? ");
            next("y:w=1" + sign + "(s=1)", "", "&|? ");
            next("y:(w=1" + sign, "", atoms + "[(! ");
            next("y:(w=1)" + sign + "!", "", atoms + "[(! ");
        }
        next("y:w=1?", atoms, "[ ");
        next("y:(w=1)?", atoms, "[ ");
        next("y:!w=1?", atoms, "[ ");
        next("y:w=1?2", " " + DIGITS, "+-*/;");
        next("y:w=1?[2]", " ", "+-*/;");
        next("y:w=1?2;", "", "y ");
    }

    private static void everyEnd() {
        String text = "y:!(w+1<2&s=3)|f>[n-4]*5?6/t;y:u";
        for (int n = 0; n <= text.length(); n++) {
            String part = text.substring(0, n);
            boolean isWhole = n == 26 || n == 28 || n == 32;
            due(part, isWhole ? NONE : n);
            due(part + " ", isWhole ? NONE : n + 1);
            due(part + "#", n);
        }
    }

    /** Blanks likewise: between all these, not within numbers. */
    private static void blanksBetweenAll() {
        String text = "y:!(w+12<345&s=6)|f>[n-7890]?6/t;y:u";
        for (int at = 0; at <= text.length(); at++) {
            boolean within = at == 7 || at == 10 || at == 11 || at > 23 && at < 27;
            for (int many = 1; many <= 3; many++) {
                due(text.substring(0, at) + " ".repeat(many) + text.substring(at), within ? at + many : NONE);
            }
            for (int sign : new int[] {9, 10, 31, 35, 127, 160, 255}) {
                due(text.substring(0, at) + (char) sign + text.substring(at), at);
            }
        }
        worth(" y : n = 9 ? 1 + [ 2 * 3 ] ; y : 4 ", 7);
        worth("y:!  ( n = 8 ) & n < 10 ? 5", 5);
    }

    /** All rows of ( [ ! that can stand within one another; behind [ only [ can. */
    private static List<String> rows(int many) {
        List<String> rows = new ArrayList<>();
        for (int open = 0; open <= many; open++) {
            for (int bits = 0; bits < 1 << open; bits++) {
                String row = "";
                for (int k = 0; k < open; k++) {
                    row += (bits >> k & 1) == 0 ? "(" : "!";
                }
                rows.add(row + "[".repeat(many - open));
            }
        }
        return rows;
    }

    /** At most six of ( [ ! within one another: a seventh of these is wrong. */
    private static void sixWithinOneAnother() {
        for (int many = 1; many <= 8; many++) {
            for (String row : rows(many)) {
                due("y:" + row, Math.min(2 + many, 8));
                due("y:" + row + "w", many <= 6 ? 3 + many : 8);
                due("y:w=1&" + row + "w", many <= 6 ? 7 + many : 12);
                due("y:w=1|" + row + "w", many <= 6 ? 7 + many : 12);
            }
            String sum = "[".repeat(many) + "w" + "]".repeat(many);
            due("y:" + sum, many <= 6 ? NONE : 8);
            due("y:w+" + sum, many <= 6 ? NONE : 10);
            due("y:w=1?" + sum, many <= 6 ? NONE : 12);
            due("y:1;y:" + sum, many <= 6 ? NONE : 12);
            due("y:" + "(".repeat(many) + "w=1" + ")".repeat(many) + "?2", many <= 6 ? NONE : 8);
            due("y:" + "!".repeat(many) + "w=1?2", many <= 6 ? NONE : 8);
            due("y:" + "!".repeat(many - 1) + "[w]=1?2", many <= 6 ? NONE : 8);
            due("y:" + "!".repeat(many - 1) + "(w=1)?2", many <= 6 ? NONE : 8);
            due("y:" + "(".repeat(many - 1) + "w=[1]" + ")".repeat(many - 1) + "?2",
                    many <= 6 ? NONE : many == 7 ? 10 : 8);
        }
    }

    /** What is closed again, or ends with its UNIT, holds nothing that comes behind it. */
    private static void withinOneAnotherAlone() {
        due("y:[[[[[[w]]]]]]+[[[[[[w]]]]]]", NONE);
        due("y:[[[[[[w]+[w]]]]]]", NONE);
        due("y:[[[[[[w]+[w]]]]]+[[[[[w]]]]]]", NONE);
        due("y:[[[[[[w]]]]]+[[[[[[", 20);
        due("y:!!!!!!w=1&!!!!!!w=1|!!!!!!w=1?1", NONE);
        due("y:!!!!!!w=1&[[[[[[w]]]]]]=1?1", NONE);
        due("y:!!!!!!(w=1)", 8);
        due("y:!!!!!!w=[1]", 10);
        due("y:!!!!!!w+[1]", 10);
        due("y:((((((w=1))))))&((((((w=1))))))?1", NONE);
        due("y:((((((w=1)))))&((((((", 22);
        due("y:(!(!(!w=1)&!w=1)&!w=1)?1", NONE);
        due("y:(!(!(!w=1&[", 13);
        due("y:(!(!(!w=1&[[", 13);
        due("y:(!(!(w=[1]+[2]&!w=1)))?1", NONE);
        due("y:(!(!([w]=1&!w=!", 16);
        due("y:[1]=[1]?[1];y:![1]=[1]?[1]", NONE);
        worth("y:[[[[[[1+2]*2+1]*2+1]*2+1]*2+1]*2+1]", 127);
        worth("y:!!!!!!n=9?1;y:2", 1);
        worth("y:!!!!!n=9?1;y:2", 2);
        worth("y:((((((n=9))))))?1;y:2", 1);
    }

    /** A CLAUSE that goes on with ! or ( behind its : has a CONDITION. */
    private static void conditionsBehindBrackets() {
        due("y:(w)", 4);
        due("y:(w)+1", 4);
        due("y:(w+1)*2", 6);
        due("y:!w", 4);
        due("y:!1", 4);
        due("y:(w=1)", 7);
        due("y:!w=1", 6);
        due("y:(w=1);", 7);
        due("y:(w=1)+1=2?3", 7);
        due("y:[w]", NONE);
        due("y:[w]=1", 7);
        due("y:[w=1]?1", 4);
        due("y:w?1", 3);
        due("y:w&s=1?1", 3);
        due("y:w=1=1?1", 5);
        due("y:w=1?2?3", 7);
        due("y:w=1?s=2", 7);
        due("y:w=1?(2)", 6);
        due("y:w=1?!2", 6);
        due("y:w=(1)", 4);
        due("y:w=!1", 4);
    }

    /** Behind each sign numbers are within -1,000,000 .. 1,000,000. */
    private static void signsInTheirBounds() {
        worth("y:1000*1000", 1000000);
        worth("y:1000*1000+0", 1000000);
        worth("y:1000*1000-1", 999999);
        worth("y:999*1000+999+1", 1000000);
        worth("y:999*1000+999+1+1", 1000000);
        worth("y:999*1000+999+1+1-1", 999999);
        worth("y:1000*1000+9999-9999", 990001);
        worth("y:9999-9999+1000*1000", 1000000);
        worth("y:1001*1000", 1000000);
        worth("y:1001*1000-1000", 999000);
        worth("y:9999*9999/10", 100000);
        worth("y:9999*9999*9999*9999*9999", 1000000);
        worth("y:1000*1000+[1000*1000]", 1000000);
        worth("y:[0-1000]*1000", -1000000);
        worth("y:[0-1000]*1000-0", -1000000);
        worth("y:[0-1000]*1000+1", -999999);
        worth("y:[0-1000]*1000-1", -1000000);
        worth("y:[0-1000]*1000-1+1", -999999);
        worth("y:0-1000*1000-1000*1000", -1000000);
        worth("y:[0-1001]*1000+1000", -999000);
        worth("y:[0-9999]*9999*9999", -1000000);
        worth("y:[0-9999]*9999*[0-9999]*9999", 1000000);
        worth("y:[0-1000*1000]/[0-1]", 1000000);
        worth("y:1000*1000/[0-1]", -1000000);
        worth("y:0-1000*1000*[0-1]", 1000000);
    }

    private static void boundsInConditions() {
        worth("y:1000*1000+1=1000*1000?1;y:2", 1);
        worth("y:1000*1000<1000*1000+1?1;y:2", 2);
        worth("y:1000*1000>999*1000+999?1;y:2", 1);
        worth("y:0-1000*1000-1<0-1000*1000?1;y:2", 2);
        worth("y:0-1000*1000<0-999*1000-999?1;y:2", 1);
        worth("y:n<9?1;y:2", 2);
        worth("y:n<10?1;y:2", 1);
        worth("y:n>9?1;y:2", 2);
        worth("y:n>8?1;y:2", 1);
        worth("y:n=8?1;y:n=10?3;y:2", 2);
        worth("y:0-n<0-8?1;y:2", 1);
        worth("y:0-n>0-10?1;y:2", 1);
    }

    /** / cuts towards 0, by 0 gives 0. */
    private static void division() {
        worth("y:7/2", 3);
        worth("y:[0-7]/2", -3);
        worth("y:7/[0-2]", -3);
        worth("y:[0-7]/[0-2]", 3);
        worth("y:1/2", 0);
        worth("y:[0-1]/2", 0);
        worth("y:1/[0-2]", 0);
        worth("y:8/2", 4);
        worth("y:[0-8]/2", -4);
        worth("y:7/7", 1);
        worth("y:6/7", 0);
        worth("y:5/0", 0);
        worth("y:[0-5]/0", 0);
        worth("y:0/0", 0);
        worth("y:5/[n-9]+3", 3);
        worth("y:5/0/0*7+1", 1);
        worth("y:5/0=0?1;y:2", 1);
        worth("y:100/7/2", 7);
        worth("y:100/[7/2]", 33);
        worth("y:7/2*2", 6);
        worth("y:2*7/2", 7);
        worth("y:20-7-3", 10);
        worth("y:20-[7-3]", 16);
        worth("y:2+3*4-5", 9);
    }

    /** WORTH: the SUM of the first CLAUSE whose CONDITION holds (or has none), 0 without. */
    private static void clausesInTheirOrder() {
        worth("y:n=8?1", 0);
        worth("y:n=8?1;y:n=7?2;y:n=6?3", 0);
        worth("y:n=9?1;y:n=9?2;y:3", 1);
        worth("y:n=8?1;y:n=9?2;y:3", 2);
        worth("y:n=8?1;y:n=7?2;y:3", 3);
        worth("y:1;y:n=9?2", 1);
        worth("y:n=8?1;y:2;y:n=9?3", 2);
        worth("y:n=9?0;y:5", 0);
        worth("y:n=9?0-5;y:5", -5);
        due("y:n=9?n=9", 7);
        PotBook x = new PotBook();
        x.thing(1, 0, 0, false, 1, 12);
        Due.tell(x, "a1-4", 0);
        Due.tell(x, "y:n<2?10;y:n<3?20;y:n=3?30", 1);
        int[] due = {10, 20, 30, 0};
        for (int i = 0; i < 4; i++) {
            Due.same("16: of DISH " + i, x.worth(0, i, 0), due[i]);
        }
        Due.same("16: no such DISH", x.worth(0, 4, 0), HIDDEN);
    }

    /** TRUTHS with | between; TRUTH: UNITS with & between; UNIT: ! UNIT, ( CONDITION ), or SUM, one of = < >, SUM. */
    private static void conditionsOfBothKinds() {
        conditionsBy("n=8", "n=9");
        conditionsBy("n>9", "n>8");
        conditionsBy("n<9", "n<10");
        conditionsBy("n+n<n*2", "[n-9]*1000>n/9-2");
        conditionsBy("(n=8|n=7)", "!(n=8|n=7)");
    }

    private static void conditionsBy(String... units) {
        for (int bits = 0; bits < 8; bits++) {
            boolean a = (bits & 1) != 0;
            boolean b = (bits & 2) != 0;
            boolean c = (bits & 4) != 0;
            String p = units[bits & 1];
            String q = units[bits >> 1 & 1];
            String r = units[bits >> 2 & 1];
            holds(p + "|" + q + "|" + r, a || b || c);
            holds(p + "&" + q + "&" + r, a && b && c);
            holds(p + "|" + q + "&" + r, a || b && c);
            holds(p + "&" + q + "|" + r, a && b || c);
            holds("(" + p + "|" + q + ")&" + r, (a || b) && c);
            holds(p + "&(" + q + "|" + r + ")", a && (b || c));
            holds("!" + p + "&" + q + "|" + r, !a && b || c);
            holds("!(" + p + "&" + q + ")|" + r, !(a && b) || c);
            holds("!(" + p + "|" + q + ")&!" + r, !(a || b) && !c);
            holds("!!" + p + "|!(!" + q + "&" + r + ")", a || !(!b && c));
            holds(p + "&!" + q + "|!" + r + "&" + p, a && !b || !c && a);
        }
    }

    private static void holds(String condition, boolean due) {
        worth("y:" + condition + "?1;y:2", due ? 1 : 2);
    }

    /** w, s, f: WET, SWEET, FIRM times PARTS, all together; n all PARTS; b, r, t, u; k 1 with FLESH. */
    private static void lettersOfDishes() {
        PotBook x = new PotBook();
        x.thing(0, 99, 1, false, 1, 12);
        x.thing(99, 0, 2, false, 1, 12);
        x.thing(3, 5, 0, true, 1, 12);
        String[] texts = {"a1", "a99", "b99,a99", "a2,b3,c4;B9R9T9S9B8R7T6S5", "c1;R", "a1,b1;TT3", "a,c2-3"};
        int[][] due = {{0, 99, 1, 1, 0, 0, 0, 0, 0}, {0, 9801, 99, 99, 0, 0, 0, 0, 0},
            {9801, 9801, 297, 198, 0, 0, 0, 0, 0}, {309, 218, 8, 9, 17, 16, 15, 14, 1}, {3, 5, 0, 1, 0, 1, 0, 0, 1},
            {99, 99, 3, 2, 0, 0, 4, 0, 0}, {6, 109, 1, 3, 0, 0, 0, 0, 1}};
        for (String text : texts) {
            Due.tell(x, text, 0);
        }
        for (int half = 0; half < 2; half++) {
            PotBook y = x;
            if (half == 1) {
                y = new PotBook();
                y.thing(0, 99, 1, false, 1, 12);
                y.thing(99, 0, 2, false, 1, 12);
                y.thing(3, 5, 0, true, 1, 12);
                for (String text : texts) {
                    Due.tell(y, text, 0);
                }
            }
            for (int k = half * 5; k < Math.min(9, half * 5 + 5); k++) {
                Due.same("5: y:" + LETTERS.charAt(k), Due.tell(y, "y:" + LETTERS.charAt(k), 1), k - half * 5);
                for (int page = 0; page < texts.length; page++) {
                    Due.same("16: " + LETTERS.charAt(k) + " of " + texts[page], y.worth(page, 0, k - half * 5), due[page][k]);
                }
            }
        }
    }

    private static void nothingIsKeptOfFaults() {
        PotBook y = new PotBook();
        y.thing(2, 3, 4, false, 1, 12);
        Due.tell(y, "a9", 0);
        Due.same("4: a longer one", Due.fault(y, "y:n=8?1;y:n=7?2;y:7;", 1), 20);
        Due.same("5: a shorter one", Due.tell(y, "y:n=8?1", 1), 0);
        Due.same("16: no CLAUSE of the longer one", y.worth(0, 0, 0), 0);
        Due.same("4: a longer one", Due.fault(y, "y:n=9?1;y:n=7?2;y:7;", 1), 20);
        Due.same("5: a shorter one", Due.tell(y, "y:n=8?1;y:n=7?2", 1), 1);
        Due.same("16: no CLAUSE of the longer one", y.worth(0, 0, 1), 0);
        Shows shows = new Shows(x -> {
            x.thing(1, 2, 3, true, 1, 12);
            x.thing(2, 3, 4, false, 1, 12);
            Due.tell(x, "a1-2;BRT", 0);
            Due.tell(x, "y:n+1", 1);
            x.hold(0, 0, 2, 3);
        });
        String[] texts = {"y:n=1?2;y:", "y:[[[[[[[", "y:n+12345", "y:n=", "y", "y:n;x", "y:!n=1?2;"};
        int[] due = {10, 8, 8, 4, 1, 4, 9};
        for (int k = 0; k < texts.length; k++) {
            String text = texts[k];
            shows.refused("4: " + text, x -> {
                long at = Due.fault(x, text, 1);
                x.end(0);
                return at;
            }, due[k]);
            shows.refused("5: " + text, x -> {
                long answer = Due.tell(x, text, 1);
                x.end(0);
                return answer;
            }, NONE);
        }
    }
}
