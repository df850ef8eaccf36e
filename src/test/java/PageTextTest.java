/** What "Terms" says of PAGES as TEXTS, sentence by sentence: what is one, and where the FAULT is if not. */
public final class PageTextTest {
    private static final int NONE = -1;
    private static final String DIGITS = "0123456789";

    public static void main(String[] args) {
        lettersOfThingsThereAre();
        noneTwice();
        upToEight();
        numbersToNinetyNine();
        leastAndMost();
        thirdDigits();
        zerosAhead();
        leftOut();
        acts();
        timesOfActs();
        everyNextByte();
        everyEnd();
        blanksBetweenAll();
        otherBlanks();
        nothingIsKeptOfFaults();
        Due.close("PageTextTest");
    }

    private static PotBook with(int things) {
        PotBook x = new PotBook();
        for (int k = 0; k < things; k++) {
            x.thing(k, 0, 0, false, 1, 12);
        }
        return x;
    }

    /** Asked on new objects, as one of them is asked 512 times alone. */
    private static int fault(int things, String text) {
        return Due.fault(with(things), text, 0);
    }

    private static void due(int things, String text, int at) {
        Due.same("4: " + text, fault(things, text), at);
    }

    /** THINGS (letters a ..): a letter of one there is. */
    private static void lettersOfThingsThereAre() {
        for (int things = 0; things <= 12; things++) {
            for (char letter = 1; letter < 256; letter++) {
                boolean isOne = letter >= 'a' && letter < 'a' + things;
                int due = isOne ? NONE : letter == ' ' ? 1 : 0;
                due(things, "" + letter, due);
            }
        }
        due(12, "l", NONE);
        due(12, "m", 0);
        due(11, "l", 0);
        due(1, "a,b", 2);
        due(2, "a,b", NONE);
    }

    /** None twice: a letter that is there already is wrong. */
    private static void noneTwice() {
        for (int last = 1; last < 8; last++) {
            for (int again = 0; again < last; again++) {
                String text = "abcdefgh".substring(0, last).replaceAll("(.)", "$1,") + (char) ('a' + again);
                due(12, text, 2 * last);
                due(12, text + "5;B", 2 * last);
            }
        }
        due(12, "a1,a2", 3);
        due(12, "a1-2 , a", 7);
        due(12, "a,aa", 2);
    }

    /** 8 at most: a ninth of THINGS is wrong (at its letter). */
    private static void upToEight() {
        String text = "a";
        for (int k = 1; k <= 12; k++) {
            due(12, text, k <= 8 ? NONE : 16);
            due(12, text + ";B", k <= 8 ? NONE : 16);
            text += "," + (char) ('a' + k);
        }
        due(12, "a,b,c,d,e,f,g,h,", 16);
        due(12, "a,b,c,d,e,f,g,h,  ", 18);
        due(12, "a,b,c,d,e,f,g,h,  i", 18);
        due(12, "a,b,c,d,e,f,g,h9-99,a", 20);
        due(8, "a,b,c,d,e,f,g,h,i", 16);
        due(12, "a1,b1,c1,d1,e1,f1,g1,h1", NONE);
        due(12, "a1,b1,c1,d1,e1,f1,g1,h1,i1", 24);
    }

    /** Numbers are 1 .. 99: 0 is wrong at its last digit, a third digit is wrong. */
    private static void numbersToNinetyNine() {
        for (int v = 0; v <= 120; v++) {
            due(2, "a" + v, v == 0 ? 1 : v < 100 ? NONE : 3);
            due(2, "a" + v + ",b", v == 0 ? 1 : v < 100 ? NONE : 3);
            due(2, "a" + v + "-99", v == 0 ? 1 : v < 100 ? NONE : 3);
            due(2, "a1-" + v, v == 0 ? 3 : v < 100 ? NONE : 5);
        }
        for (int v : new int[] {1, 2, 9, 10, 11, 98, 99}) {
            PotBook x = with(2);
            Due.same("5: a" + v, Due.tell(x, "a" + v, 0), 0);
            Due.same("12: a" + v, x.dishes(0), 1);
            Due.same("13: a" + v, x.dish(0, 0, 0), v);
        }
    }

    /** A number - a number (the least, the most, no less): the most below the least is wrong at its last digit. */
    private static void leastAndMost() {
        for (int low = 1; low <= 99; low++) {
            for (int high = 0; high <= 99; high++) {
                String text = "a" + low + "-" + high;
                due(2, text, high >= low ? NONE : text.length() - 1);
            }
        }
        for (int[] v : new int[][] {{1, 1}, {1, 99}, {99, 99}, {98, 99}, {9, 10}}) {
            PotBook x = with(2);
            Due.tell(x, "a" + v[0] + "-" + v[1], 0);
            Due.same("12: as many as from the least to the most", x.dishes(0), v[1] - v[0] + 1);
            Due.same("14: the least", x.span(0, 0, 0), v[0]);
            Due.same("14: the most", x.span(0, 0, 1), v[1]);
        }
        due(2, "a12-11", 5);
        due(2, "a12-9", 4);
        due(2, "a12-9,b", 4);
        due(2, "a12-9 ", 4);
        due(2, "a 12 - 9 , b", 7);
        due(2, "a12-09", 5);
        due(2, "a12-00", 5);
        due(2, "a1-2-3", 4);
    }

    /** A third digit (whatever stands ahead of it). */
    private static void thirdDigits() {
        for (int v = 0; v <= 999; v++) {
            String three = String.format("%03d", v);
            due(2, "a" + three, 3);
            due(2, "a50-" + three, 6);
            due(2, "a" + three + "-1", 3);
        }
        due(2, "a0000", 3);
        due(2, "a12345", 3);
        due(2, "a99-0000", 6);
        due(2, "a  100", 5);
        due(2, "a1 -  100", 8);
    }

    private static void zerosAhead() {
        for (int v = 0; v <= 9; v++) {
            due(2, "a0" + v, v == 0 ? 2 : NONE);
            due(2, "a1-0" + v, v == 0 ? 4 : NONE);
            due(2, "a5-0" + v, v < 5 ? 4 : NONE);
            due(2, "a0" + v + "-9", v == 0 ? 2 : NONE);
        }
        due(2, "a0", 1);
        due(2, "a0 ", 1);
        due(2, "a0;B", 1);
        due(2, "a0-5", 1);
        due(2, "a0X", 1);
        due(2, "a00X", 2);
        due(2, "a0 0", 1);
        PotBook x = with(2);
        Due.tell(x, "a07-09", 0);
        Due.same("14: 07", x.span(0, 0, 0), 7);
        Due.same("14: 09", x.span(0, 0, 1), 9);
    }

    /** Else its PARTS are LEFT OUT. */
    private static void leftOut() {
        PotBook x = with(3);
        String[] texts = {"a", "a1", "a1-1", "a,b", "a1,b", "a,b1", "a1,b1-99", "c,b,a;B", "c1,b,a2"};
        int[] due = {1, 0, 0, 3, 2, 1, 0, 7, 2};
        for (int k = 0; k < texts.length; k++) {
            Due.same("5: " + texts[k], Due.tell(x, texts[k], 0), k);
            Due.same("9: LEFT OUT of " + texts[k], Shows.page(x, k, 2), due[k]);
        }
    }

    /** Then perhaps ; and ACTS (8 at most, one at least): letters B R T S. */
    private static void acts() {
        due(2, "a", NONE);
        due(2, "a;", 2);
        due(2, "a; ", 3);
        String acts = "";
        for (int k = 0; k <= 12; k++) {
            due(2, "a;" + acts, k == 0 ? 2 : k <= 8 ? NONE : 10);
            due(2, "a1,b;" + acts, k == 0 ? 5 : k <= 8 ? NONE : 13);
            acts += "BRTS".charAt(k % 4);
        }
        for (char letter = 1; letter < 256; letter++) {
            boolean isAct = letter == 'B' || letter == 'R' || letter == 'T' || letter == 'S';
            due(2, "a;" + letter, isAct ? NONE : letter == ' ' ? 3 : 2);
            due(2, "a;BBBBBBBB" + letter, letter == ' ' || letter >= '1' && letter <= '9' ? NONE : 10);
            due(2, "a;B9BBBBBBB9" + letter, letter == ' ' ? NONE : 12);
        }
        due(2, "a;B1R2T3S4B5R6T7S8 B", 19);
        due(2, "a;B1R2T3S4B5R6T7S8 ", NONE);
    }

    /** Each perhaps with a digit 1 .. 9 (so many times; once without). */
    private static void timesOfActs() {
        due(2, "a;B0", 3);
        due(2, "a;B00", 3);
        due(2, "a;B10", 4);
        due(2, "a;B01", 3);
        PotBook x = with(2);
        Due.tell(x, "y:b*1000+r*100+t*10+u", 1);
        Due.tell(x, "a1;B", 0);
        Due.same("9: once without", Shows.page(x, 0, 1), 1);
        Due.same("16: once without", x.worth(0, 0, 0), 1000);
        for (int v = 1; v <= 9; v++) {
            Due.tell(x, "a1;S" + v, 0);
            Due.same("9: S" + v, Shows.page(x, v, 1), v);
            Due.same("16: S" + v, x.worth(v, 0, 0), v);
        }
        Due.tell(x, "a1;B9R9T9S9", 0);
        Due.same("9: told out", Shows.page(x, 10, 1), 36);
        Due.same("16: nine of each", x.worth(10, 0, 0), 9999);
        Due.tell(x, "a1;S2BS3", 0);
        Due.same("16: so many in all", x.worth(11, 0, 0), 1005);
    }

    /** FAULT: the first byte at which no PAGE can go on (the length, if it ends too early). */
    private static void next(String text, String whole, String open) {
        for (char letter = 1; letter < 256; letter++) {
            int at = text.length();
            int due = whole.indexOf(letter) >= 0 ? NONE : open.indexOf(letter) >= 0 ? at + 1 : at;
            due(3, text + letter, due);
        }
    }

    private static void everyNextByte() {
        String some = "123456789";
        next("", "abc", " ");
        next("a", some + " ", ",;");
        next("a ", some + " ", ",;");
        next("a,", "bc", " ");
        next("b, ", "ac", " ");
        next("a1", DIGITS + " ", "-,;");
        next("a1 ", " ", "-,;");
        next("a12", " ", "-,;");
        next("a1-", some, " ");
        next("a1-1", DIGITS + " ", ",;");
        next("a1-12", " ", ",;");
        next("a1-1 ", " ", ",;");
        next("a;", "BRTS", " ");
        next("a;B", "BRTS " + some, "");
        next("a;B ", "BRTS " + some, "");
        next("a;B2", "BRTS ", "");
        next("a;B2 ", "BRTS ", "");
        Due.same("4: a1-, and what is more than one digit", fault(3, "a1-0"), 3);
    }

    private static void everyEnd() {
        String text = "a12-34,b5;B2R";
        int[] whole = {1, 2, 3, 5, 6, 8, 9, 11, 12, 13};
        for (int n = 0; n <= text.length(); n++) {
            boolean isWhole = java.util.Arrays.binarySearch(whole, n) >= 0;
            String part = text.substring(0, n);
            due(3, part, n == 5 ? 4 : isWhole ? NONE : n);
            due(3, part + " ", n == 5 ? 4 : isWhole ? NONE : n + 1);
            due(3, part + "#", n == 5 ? 4 : n);
        }
    }

    /** Blanks (32) may stand between all these, not within numbers. */
    private static void blanksBetweenAll() {
        String text = "a12-34,b5;B2R";
        for (int at = 0; at <= text.length(); at++) {
            for (int many = 1; many <= 3; many++) {
                String blank = text.substring(0, at) + " ".repeat(many) + text.substring(at);
                // "3 4": 3 is below 12; "1 2" and "3 4" are no numbers
                due(3, blank, at == 2 ? 2 + many : at == 5 ? 4 : NONE);
            }
        }
        due(3, "a1 2", 3);
        due(3, "a1-1 2", 5);
        due(3, "a;B1 2", 5);
        PotBook x = with(3);
        Due.same("5: with blanks", Due.tell(x, "  c  7 - 08 ,  a ; B 3  R ", 0), 0);
        Due.same("9: THINGS", Shows.page(x, 0, 0), 5);
        Due.same("9: ACTS", Shows.page(x, 0, 1), 4);
        Due.same("9: LEFT OUT", Shows.page(x, 0, 2), 1);
        Due.same("14: 7", x.span(0, 2, 0), 7);
        Due.same("14: 8", x.span(0, 2, 1), 8);
    }

    private static void otherBlanks() {
        for (int sign : new int[] {1, 9, 10, 13, 31, 33, 127, 128, 160, 255}) {
            due(3, (char) sign + "a", 0);
            due(3, "a" + (char) sign, 1);
            due(3, "a1" + (char) sign + ",b", 2);
            due(3, "a1, " + (char) sign + "b", 4);
            due(3, "a;B" + (char) sign, 3);
        }
    }

    /** A text with a FAULT tells nothing, wherever the FAULT is. */
    private static void nothingIsKeptOfFaults() {
        Shows shows = new Shows(x -> {
            x.thing(1, 2, 3, true, 1, 12);
            x.thing(2, 3, 4, false, 1, 12);
            Due.tell(x, "a1-2;BRT", 0);
            Due.tell(x, "a,b;B", 0);
            Due.tell(x, "y:n", 1);
        });
        String[] texts = {"b9,a7-8;S9T9R9B9S9T9R9B9S", "b9,a7-8;S9T9R9B9X", "b9,a7-6", "b9,a7-", "b,c", "b,", "b,b", "X"};
        int[] due = {24, 16, 6, 6, 2, 2, 2, 0};
        for (int k = 0; k < texts.length; k++) {
            String text = texts[k];
            shows.refused("4: " + text, x -> {
                long at = Due.fault(x, text, 0);
                x.end(0);
                return at;
            }, due[k]);
            shows.refused("5: " + text, x -> {
                long answer = Due.tell(x, text, 0);
                x.end(0);
                return answer;
            }, NONE);
        }
    }
}
