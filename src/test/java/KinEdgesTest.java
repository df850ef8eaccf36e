/** The edges that "Terms" names of MONTHS, FAR, CAME, TREE, CHANGED, LINE, STEM and of WRITERS, sentence by sentence. */
public final class KinEdgesTest {
    private static final int NONE = -1;
    private static final int MIN = Integer.MIN_VALUE;
    private static final int MAX = Integer.MAX_VALUE;

    public static void main(String[] args) {
        monthsOfAllThings();
        farByThings();
        farByActs();
        farAtTheMost();
        cameFromTheLeastFar();
        treeOfFewAndMany();
        changedThings();
        changedActs();
        linesOfMany();
        stems();
        writersFromNoneToFive();
        leavesOfPages();
        twiceOfPairs();
        guesses();
        guessesCut();
        nearest();
        nearestOfSeveral();
        Due.close("KinEdgesTest");
    }

    private static PotBook with(int things, String... texts) {
        PotBook x = new PotBook();
        for (int k = 0; k < things; k++) {
            x.thing(1, 1, 1, false, 1, 12);
        }
        for (int k = 0; k < texts.length; k++) {
            Due.same("5: " + texts[k], Due.tell(x, texts[k], 0), k);
        }
        return x;
    }

    /** MONTHS of a PAGE: in which all its THINGS are to be had; as bits (0 .. 11 for 1 .. 12). */
    private static void monthsOfAllThings() {
        PotBook x = new PotBook();
        int[][] from = {{1, 12}, {1, 1}, {12, 12}, {12, 1}, {2, 1}, {6, 8}, {8, 6}, {7, 6}};
        for (int[] f : from) {
            x.thing(1, 1, 1, false, f[0], f[1]);
        }
        String[] texts = {"a", "b", "c", "d", "e", "f", "g", "h", "b,c", "b,d", "f,g", "a,e,h", "f,g,a", "f1,b2", "a,b,c,d,e,f,g,h"};
        int[] due = {4095, 1, 2048, 2049, 4095, 224, 4095 - 64, 4095, 0, 1, 160, 4095, 160, 0, 0};
        for (int page = 0; page < texts.length; page++) {
            Due.same("34: not told ahead", x.months(page), NONE);
            Due.tell(x, texts[page], 0);
            Due.same("34: " + texts[page], x.months(page), due[page]);
        }
        for (int none : new int[] {-1, 15, 16, MIN, MAX}) {
            Due.same("34: no PAGE " + none, x.months(none), NONE);
        }
    }

    /** FAR of two PAGES: THINGS on one alone, whatever their PARTS are. */
    private static void farByThings() {
        PotBook x = with(12, "a", "a5", "b", "a,b", "b2-3,a", "a,b,c,d,e,f,g,h", "i,j,k,l", "e,f,g,h,i,j,k,l");
        int[][] due = {{0, 0, 2, 1, 1, 7, 5, 9}, {0, 0, 2, 1, 1, 7, 5, 9}, {2, 2, 0, 1, 1, 7, 5, 9}, {1, 1, 1, 0, 0, 6, 6, 10},
            {1, 1, 1, 0, 0, 6, 6, 10}, {7, 7, 7, 6, 6, 0, 12, 8}, {5, 5, 5, 6, 6, 12, 0, 4}, {9, 9, 9, 10, 10, 8, 4, 0}};
        for (int one = 0; one < 8; one++) {
            for (int other = 0; other < 8; other++) {
                Due.same("35: " + one + " and " + other, x.far(one, other), due[one][other]);
            }
        }
        for (int none : new int[] {-1, 8, 16, MIN, MAX}) {
            Due.same("35: no PAGE " + none, x.far(none, 0), NONE);
            Due.same("35: no PAGE " + none, x.far(0, none), NONE);
            Due.same("35: no PAGE " + none, x.far(none, none), NONE);
        }
    }

    /** And the fewest ACTS (times told out, one by one) that must be put in, taken out, changed. */
    private static void farByActs() {
        String[] texts = {"a", "a;B", "a;R", "a;BR", "a;RB", "a;B2", "a;BB", "a;B9", "a;BRTS", "a;BTS", "a;SBRT", "a;B2R2T2S2"};
        PotBook x = with(1, texts);
        int[][] due = {
            {0, 1, 1, 2, 2, 2, 2, 9, 4, 3, 4, 8},
            {1, 0, 1, 1, 1, 1, 1, 8, 3, 2, 3, 7},
            {1, 1, 0, 1, 1, 2, 2, 9, 3, 3, 3, 7},
            {2, 1, 1, 0, 2, 1, 1, 8, 2, 2, 2, 6},
            {2, 1, 1, 2, 0, 1, 1, 8, 3, 3, 3, 7},
            {2, 1, 2, 1, 1, 0, 0, 7, 3, 2, 3, 6}};
        for (int one = 0; one < due.length; one++) {
            for (int other = 0; other < texts.length; other++) {
                Due.same("35: " + texts[one] + " and " + texts[other], x.far(one, other), due[one][other]);
                Due.same("35: " + texts[other] + " and " + texts[one], x.far(other, one), due[one][other]);
            }
        }
        Due.same("35: B9 and BRTS", x.far(7, 8), 8);
        Due.same("35: one taken out", x.far(8, 9), 1);
        Due.same("35: the last put ahead", x.far(8, 10), 2);
        Due.same("35: each once more", x.far(8, 11), 4);
    }

    private static void farAtTheMost() {
        PotBook x = with(12, "a,b,c,d,e,f;B9B9B9B9B9B9B9B9", "g,h,i,j,k,l", "g,h,i,j,k,l;S9S9S9S9S9S9S9S9",
                "a,b,c,d,e,f;B9B9B9B9B9B9B9B8");
        Due.same("35: 12 THINGS and 72 ACTS taken out", x.far(0, 1), 84);
        Due.same("35: 12 THINGS and 72 ACTS put in", x.far(1, 2), 72);
        Due.same("35: 12 THINGS and 72 ACTS changed", x.far(0, 2), 84);
        Due.same("35: one ACT of 72", x.far(0, 3), 1);
        Due.same("44: 72 ACTS", x.changed(1, 3), 72);
        Due.same("37: 1 and 72 and 83", x.tree(), 1 + 72 + 83);
    }

    /** CAME: the PAGE of a lower number least FAR (of several the lowest). */
    private static void cameFromTheLeastFar() {
        PotBook x = with(4, "a", "b", "a,b", "a,b", "c", "a,c", "b;B", "b;B2");
        int[] due = {NONE, 0, 0, 2, 0, 0, 1, 6};
        for (int page = 0; page < due.length; page++) {
            Due.same("36: PAGE " + page, x.came(page), due[page]);
        }
        for (int none : new int[] {-1, 8, 16, MIN, MAX}) {
            Due.same("36: no PAGE " + none, x.came(none), NONE);
        }
        PotBook y = with(4, "a,b,c,d", "a", "a");
        Due.same("36: however FAR", y.came(1), 0);
        Due.same("36: a like one", y.came(2), 1);
        Due.tell(y, "a,b,c,d", 0);
        Due.same("36: not one of a higher number", y.came(1), 0);
        Due.same("36: the first of all", y.came(3), 0);
        Due.same("36: none of a lower number", y.came(0), NONE);
    }

    /** TREE (0 with one PAGE or none): the least FAR together that joins all PAGES. */
    private static void treeOfFewAndMany() {
        PotBook x = with(12);
        Due.same("37: none", x.tree(), 0);
        String[] texts = {"a;B", "a,b;B", "d,e,f;S9", "a,b,c;B", "a;B", "d,e,f;S8", "a,b,c,d,e,f;S8", "d,e;S8"};
        // the seventh is 3 from the sixth and 11 from the fourth, so that the 12 from the first to the sixth is gone
        int[] due = {0, 1, 1 + 13, 2 + 13, 2 + 13, 3 + 12, 3 + 3 + 11, 4 + 3 + 11};
        for (int page = 0; page < texts.length; page++) {
            Due.tell(x, texts[page], 0);
            Due.same("37: " + (page + 1) + " PAGES", x.tree(), due[page]);
        }
        PotBook y = with(12, "a");
        Due.same("37: one", y.tree(), 0);
        for (int k = 1; k < 12; k++) {
            Due.tell(y, "" + (char) ('a' + k), 0);
            Due.same("37: a star of " + (k + 1), y.tree(), 2 * k);
        }
        PotBook z = with(8);
        String row = "a";
        for (int k = 1; k < 8; k++) {
            row += "," + (char) ('a' + k);
        }
        for (int k = 8; k >= 1; k--) {
            Due.tell(z, row.substring(0, 2 * k - 1), 0);
        }
        Due.same("37: a row of eight", z.tree(), 7);
        for (int k = 1; k <= 8; k++) {
            Due.tell(z, row.substring(0, 2 * k - 1) + ";B9", 0);
        }
        Due.same("37: two rows of eight, nine apart", z.tree(), 7 + 9 + 7);
        PotBook w = with(2, "a;B9", "a", "a;B4");
        Due.same("37: by one told later", w.tree(), 5 + 4);
    }

    /** CHANGED: THINGS that are new, gone, told otherwise (on both, LEFT OUT or other numbers). */
    private static void changedThings() {
        String[] old = {"a", "a5", "a5-6", "a5", "a5-6", "a", "a", "a5-6", "a5-6", "a5-5", "a5", "a5-6"};
        String[] now = {"a", "a5", "a5-6", "a6", "a", "a5", "a5-6", "a5-7", "a4-6", "a5", "a5-5", "a5"};
        int[] due = {0, 0, 0, 1, 1, 1, 1, 1, 1, 0, 0, 1};
        for (int k = 0; k < old.length; k++) {
            PotBook x = with(4, old[k], now[k]);
            Due.same("44: new, " + old[k] + " to " + now[k], x.changed(1, 0), 0);
            Due.same("44: gone, " + old[k] + " to " + now[k], x.changed(1, 1), 0);
            Due.same("44: otherwise, " + old[k] + " to " + now[k], x.changed(1, 2), due[k]);
            Due.same("44: ACTS, " + old[k] + " to " + now[k], x.changed(1, 3), 0);
        }
        PotBook x = with(12, "a,b2,c3,d", "l,c4,b2,a1;B");
        Due.same("44: new", x.changed(1, 0), 2048);
        Due.same("44: gone", x.changed(1, 1), 8);
        Due.same("44: otherwise, not where it stands", x.changed(1, 2), 5);
        Due.same("44: ACTS", x.changed(1, 3), 1);
        for (int what = -1; what <= 4; what++) {
            Due.same("44: it CAME from none", x.changed(0, what), NONE);
        }
        for (int none : new int[] {-1, 4, MIN, MAX}) {
            Due.same("44: no such number " + none, x.changed(1, none), NONE);
        }
        for (int none : new int[] {-1, 2, 16, MIN, MAX}) {
            Due.same("44: no PAGE " + none, x.changed(none, 0), NONE);
        }
    }

    /** From that it CAME from, not from the last one nor the first. */
    private static void changedActs() {
        PotBook x = with(6, "a,b;BRT", "c,d;S9", "e,f;T5", "c,d,a;S7B", "c1,d,a;S7B");
        Due.same("36: from PAGE 1", x.came(3), 1);
        Due.same("44: new", x.changed(3, 0), 1);
        Due.same("44: gone", x.changed(3, 1), 0);
        Due.same("44: ACTS", x.changed(3, 3), 2);
        Due.same("44: otherwise", x.changed(4, 2), 4);
        Due.same("44: no ACTS", x.changed(4, 3), 0);
        Due.same("44: all new", x.changed(2, 0), 48);
        Due.same("44: all gone", x.changed(2, 1), 3);
        Due.same("44: ACTS", x.changed(2, 3), 4);
    }

    /** LINE: how many times one goes from a PAGE to that it CAME from till there is none. */
    private static void linesOfMany() {
        PotBook x = with(1, "a");
        Due.same("45: one alone", x.line(0), 0);
        for (int k = 1; k < 16; k++) {
            Due.tell(x, "a;" + (k <= 9 ? "B" + k : "B9B" + (k - 9)), 0);
            Due.same("36: from the one ahead", x.came(k), k - 1);
            Due.same("45: a row", x.line(k), k);
        }
        Due.same("46: the ends of the row", x.stem(15, 0), 0);
        Due.same("46: within the row", x.stem(15, 7), 7);
        PotBook y = with(12, "a");
        for (int k = 1; k < 12; k++) {
            Due.tell(y, "a," + (char) ('a' + k), 0);
            Due.same("45: a star", y.line(k), 1);
            Due.same("46: a star", y.stem(k, k / 2), k == 1 ? 0 : k / 2 == 0 ? 0 : 0);
        }
        for (int none : new int[] {-1, 16, MIN, MAX}) {
            Due.same("45: no PAGE " + none, x.line(none), NONE);
        }
        Due.same("45: no PAGE", y.line(12), NONE);
    }

    /** STEM: the one that both LINES come to first (a PAGE is on its own LINE). */
    private static void stems() {
        PotBook x = with(12, "a", "a,b", "a,c", "a,b,d", "a,b,e", "a,b,e,f", "a,c,g");
        int[] from = {NONE, 0, 0, 1, 1, 4, 2};
        for (int page = 0; page < 7; page++) {
            Due.same("36: PAGE " + page, x.came(page), from[page]);
            Due.same("46: itself", x.stem(page, page), page);
        }
        int[][] due = {{0, 6, 0}, {1, 2, 0}, {3, 4, 1}, {3, 5, 1}, {4, 5, 4}, {5, 6, 0}, {2, 6, 2}, {1, 5, 1}, {3, 6, 0}, {3, 1, 1}};
        for (int[] d : due) {
            Due.same("46: " + d[0] + " and " + d[1], x.stem(d[0], d[1]), d[2]);
            Due.same("46: " + d[1] + " and " + d[0], x.stem(d[1], d[0]), d[2]);
        }
        for (int none : new int[] {-1, 7, 16, MIN, MAX}) {
            Due.same("46: no PAGE " + none, x.stem(none, 0), NONE);
            Due.same("46: no PAGE " + none, x.stem(0, none), NONE);
            Due.same("46: no PAGE " + none, x.stem(none, none), NONE);
        }
    }

    /** WRITERS 0 .. 5 of PAGES (0 at first). */
    private static void writersFromNoneToFive() {
        PotBook x = with(1, "a", "a1");
        Due.same("9: 0 at first", Shows.page(x, 0, 3), 0);
        for (int writer = 0; writer <= 5; writer++) {
            Due.is("38: " + writer, x.wrote(0, writer), true);
            Due.same("9: " + writer, Shows.page(x, 0, 3), writer);
            Due.same("39: of " + writer, x.leaves(writer, 0, 0), 1);
            for (int none : new int[] {-1, 6, MIN, MAX}) {
                Due.is("38: no WRITER " + none, x.wrote(0, none), false);
                Due.same("40: no WRITER " + none, x.twice(none), NONE);
                Due.same("39: no WRITER " + none, x.leaves(none, 0, 0), NONE);
            }
            Due.same("9: it changes nothing", Shows.page(x, 0, 3), writer);
        }
        for (int none : new int[] {-1, 2, 16, MIN, MAX}) {
            Due.is("38: no PAGE " + none, x.wrote(none, 0), false);
            Due.same("9: no PAGE " + none, Shows.page(x, none, 3), Shows.THROWN);
        }
        Due.same("9: of another PAGE 0", Shows.page(x, 1, 3), 0);
        for (int none : new int[] {-1, 1, 12, MIN, MAX}) {
            Due.same("39: no THING " + none, x.leaves(0, none, 0), NONE);
        }
        for (int none : new int[] {-1, 2, MIN, MAX}) {
            Due.same("39: no such side " + none, x.leaves(0, 0, none), NONE);
        }
    }

    /** LEAVES: on how many of its PAGES with a THING PARTS of it are LEFT OUT, on how many not. */
    private static void leavesOfPages() {
        PotBook x = with(3);
        for (int k = 0; k < 16; k++) {
            Due.same("39: so far", x.leaves(0, 0, 0), (k + 1) / 2);
            Due.same("39: so far", x.leaves(0, 0, 1), k / 2);
            Due.tell(x, k % 2 == 0 ? "a,b1" : "b,a1-9", 0);
        }
        Due.same("39: of all eight", x.leaves(0, 1, 0), 8);
        Due.same("39: of all eight", x.leaves(0, 1, 1), 8);
        Due.same("39: on none", x.leaves(0, 2, 0) + x.leaves(0, 2, 1), 0);
        Due.same("39: of another none", x.leaves(5, 0, 0) + x.leaves(5, 0, 1), 0);
        x.wrote(0, 5);
        x.wrote(1, 5);
        Due.same("39: one of another", x.leaves(5, 0, 0) * 10 + x.leaves(5, 0, 1), 11);
        Due.same("39: seven are left", x.leaves(0, 0, 0) * 10 + x.leaves(0, 0, 1), 77);
    }

    /** TWICE: pairs of its PAGES with the same THINGS, of which one leaves out PARTS that the other tells. */
    private static void twiceOfPairs() {
        String[][] pairs = {{"a", "a1", "1"}, {"a1", "a", "1"}, {"a", "a", "0"}, {"a1", "a1", "0"}, {"a1", "a2", "0"},
            {"a1", "a2-3", "0"}, {"a,b1", "b,a1", "1"}, {"a,b", "b1,a1", "1"}, {"a,b", "b,a1", "1"}, {"a,b1", "a1", "0"},
            {"a,b1", "a,b2", "0"}, {"a,b", "a1", "0"}, {"a", "b", "0"}, {"a;B", "a1", "1"}};
        for (String[] pair : pairs) {
            PotBook x = with(2, pair[0], pair[1]);
            Due.same("40: " + pair[0] + " and " + pair[1], x.twice(0), Integer.parseInt(pair[2]));
            x.wrote(1, 3);
            Due.same("40: of two WRITERS", x.twice(0) + x.twice(3), 0);
            x.wrote(0, 3);
            Due.same("40: of one again", x.twice(3), Integer.parseInt(pair[2]));
        }
        PotBook x = with(2);
        Due.same("40: no PAGES", x.twice(0), 0);
        for (int k = 0; k < 16; k++) {
            Due.tell(x, k % 2 == 0 ? "a" : "a" + k, 0);
            Due.same("40: of so many", x.twice(0), ((k + 1) / 2) * (k / 2 + 1));
        }
    }

    /** GUESS of a THING LEFT OUT on a PAGE: of all other PAGES of its WRITER that tell PARTS of it. */
    private static void guesses() {
        PotBook x = with(3, "a,b", "a7", "a", "b5,c1", "a1-2,b1");
        Due.same("47: 7 and 1", x.guess(0, 0), 4);
        Due.same("47: 5 and 1", x.guess(0, 1), 3);
        Due.same("47: another one", x.guess(2, 0), 4);
        Due.same("47: not LEFT OUT", x.guess(1, 0), NONE);
        Due.same("47: not on the PAGE", x.guess(0, 2), NONE);
        Due.same("47: not on the PAGE", x.guess(2, 1), NONE);
        x.wrote(1, 2);
        Due.same("47: of its WRITER alone", x.guess(0, 0), 1);
        x.wrote(4, 2);
        Due.same("47: none", x.guess(0, 0), NONE);
        Due.same("47: b alone", x.guess(0, 1), 5);
        x.wrote(0, 2);
        Due.same("47: of the other WRITER", x.guess(0, 0), 4);
        Due.same("47: of the other WRITER", x.guess(0, 1), 1);
        Due.same("47: that does not tell it", x.guess(2, 0), NONE);
        for (int none : new int[] {-1, 3, 12, MIN, MAX}) {
            Due.same("47: no THING " + none, x.guess(0, none), NONE);
        }
        for (int none : new int[] {-1, 5, 16, MIN, MAX}) {
            Due.same("47: no PAGE " + none, x.guess(none, 0), NONE);
            Due.same("48: no PAGE " + none, x.nearest(none), NONE);
        }
        PotBook y = with(2, "a", "a");
        Due.same("47: LEFT OUT on both", y.guess(0, 0), NONE);
        Due.same("48: no GUESSES", y.nearest(0), NONE);
    }

    /** The mean (cut): of each the least and the most together by 2, cut. */
    private static void guessesCut() {
        String[][] told = {{"a1", "1"}, {"a1-2", "1"}, {"a2-3", "2"}, {"a1-99", "50"}, {"a98-99", "98"}, {"a99", "99"},
            {"a1", "a2", "1"}, {"a1", "a2", "a2", "1"}, {"a1-2", "a1-2", "1"}, {"a1-2", "a2-3", "1"}, {"a2-3", "a3-4", "2"},
            {"a1", "a3", "2"}, {"a1", "a1", "a3", "1"}, {"a1", "a1", "a4", "2"}, {"a1", "a99", "50"}, {"a99", "a98", "98"}};
        for (String[] row : told) {
            PotBook x = with(1, "a");
            for (int k = 0; k + 1 < row.length; k++) {
                Due.tell(x, row[k], 0);
            }
            Due.same("47: of " + String.join(" ", row), x.guess(0, 0), Integer.parseInt(row[row.length - 1]));
        }
        PotBook x = with(1);
        for (int k = 0; k < 15; k++) {
            Due.tell(x, "a" + (85 + k), 0);
        }
        Due.tell(x, "a", 0);
        Due.same("47: of fifteen", x.guess(15, 0), 92);
    }

    /** NEAREST: of DISHES the one of which PARTS LEFT OUT are least off all GUESSES there are, together. */
    private static void nearest() {
        for (int guess = 1; guess <= 9; guess++) {
            PotBook x = with(2, "a", "a" + guess);
            Due.same("48: the GUESS itself, or the last", x.nearest(0), Math.min(guess, 6) - 1);
            Due.tell(x, "y:n", 1);
            x.hold(0, 0, 3, 4);
            Due.same("48: held to 3 and 4", x.nearest(0), guess <= 3 ? 0 : 1);
            x.hold(0, 0, 9, 9);
            Due.same("48: no DISHES", x.nearest(0), NONE);
        }
        PotBook x = with(3, "b5-6,a,c", "a3", "c2");
        Due.same("48: b is told, a 3, c 2", x.nearest(0), 2 * 6 + 1);
        x.wrote(1, 1);
        Due.same("48: no GUESS of a: the lowest", x.nearest(0), 1);
        x.wrote(2, 1);
        Due.same("48: no GUESSES", x.nearest(0), NONE);
        Due.same("48: nothing LEFT OUT", x.nearest(1), NONE);
        PotBook y = with(2, "a", "a1-3");
        y.most(1);
        Due.same("48: one DISH alone", y.nearest(0), 0);
        y.most(2);
        Due.same("48: two DISHES", y.nearest(0), 1);
        PotBook z = with(9, "a", "a6", "a,b1,c1,d1,e1,f1,g1,h1", "a,b,c9");
        Due.same("48: the last of six", z.nearest(0), 5);
        Due.tell(z, "y:n", 1);
        z.hold(0, 0, 1, 3);
        Due.same("48: the last of three", z.nearest(0), 2);
        Due.same("48: of eight THINGS", z.nearest(2), 5);
        Due.same("48: fewer THINGS behind more", z.nearest(3), 5 * 6);
        Due.same("48: of one THING", z.nearest(0), 2);
    }

    /** Of several the lowest. */
    private static void nearestOfSeveral() {
        PotBook x = wetAndSweet();
        Due.tell(x, "y:[w-3]*[w-3]+[s-3]*[s-3]", 1);
        x.hold(0, 0, 1, 1);
        // 2 3, 3 2, 3 4, 4 3 are all off by one
        Due.same("12: four", x.dishes(0), 4);
        Due.same("48: the lowest of four", x.nearest(0), 0);
        PotBook y = wetAndSweet();
        Due.tell(y, "y:[w-3]*[w-3]+[s-3]*[s-3]", 1);
        y.hold(0, 0, 1, 4);
        // 1 3, 2 2, 2 3, ..: 2 3 is the first that is off by one
        Due.same("48: the first that is off by one", y.nearest(0), 2);
        y.hold(0, 0, 2, 4);
        // 1 3, 2 2, 2 4, 3 1, ..: all are off by two together
        Due.same("48: off by two of one THING, or by one of two", y.nearest(0), 0);
    }

    private static PotBook wetAndSweet() {
        PotBook x = new PotBook();
        x.thing(1, 0, 0, false, 1, 12);
        x.thing(0, 1, 0, false, 1, 12);
        Due.tell(x, "a,b", 0);
        Due.tell(x, "a3,b3", 0);
        return x;
    }
}
