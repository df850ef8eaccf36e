/** The edges that "Terms" names of WEIGHT, FOR, BOIL, SOFTER, SWAPPED and count, sentence by sentence. */
public final class PotEdgesTest {
    private static final int NONE = -1;
    private static final int HIDDEN = -10000000;
    private static final int MIN = Integer.MIN_VALUE;
    private static final int MAX = Integer.MAX_VALUE;

    public static void main(String[] args) {
        weights();
        weightsAtTheMost();
        messesOfEach();
        messesOfAllDishes();
        boilAtTheFirstMinute();
        boilOfPotAndFire();
        boilMinuteByMinute();
        boilNever();
        softerPairs();
        softerTo300();
        swappedParts();
        swappedHeld();
        swappedRefused();
        counts();
        constants();
        Due.close("PotEdgesTest");
    }

    /** a wet 1, b sweet 1, c firm 1. */
    private static PotBook with(String... texts) {
        PotBook x = new PotBook();
        x.thing(1, 0, 0, false, 1, 12);
        x.thing(0, 1, 0, false, 1, 12);
        x.thing(0, 0, 1, false, 1, 12);
        for (int k = 0; k < texts.length; k++) {
            Due.same("5: " + texts[k], Due.tell(x, texts[k], 0), k);
        }
        return x;
    }

    /** WEIGHT of a DISH in a year: PARTS times SIZE, together. */
    private static void weights() {
        PotBook x = with("a2,b3", "b", "c1-2,a");
        Due.same("41: 10 without any", x.weight(0, 0, 1200), 50);
        x.sized(0, 1300, 1);
        x.sized(1, 1300, 100);
        x.sized(1, 1310, 201);
        int[][] due = {{1200, 302}, {1300, 302}, {1301, 332}, {1305, 452}, {1309, 572}, {1310, 605}, {1999, 605}};
        for (int[] d : due) {
            Due.same("41: in " + d[0], x.weight(0, 0, d[0]), d[1]);
        }
        for (int i = 0; i < 6; i++) {
            Due.same("41: DISH " + i, x.weight(1, i, 1300), 100 * (i + 1));
        }
        Due.same("41: c is 10", x.weight(2, 11, 1300), 2 * 10 + 6);
        for (int none : new int[] {1199, 2000, -1, MIN, MAX}) {
            Due.same("41: no year " + none, x.weight(0, 0, none), NONE);
            Due.same("42: no year " + none, x.serves(0, none, 1, 0), NONE);
        }
        for (int none : new int[] {-1, 6, MIN, MAX}) {
            Due.same("41: no DISH " + none, x.weight(1, none, 1300), NONE);
        }
        for (int none : new int[] {-1, 3, 16, MIN, MAX}) {
            Due.same("41: no PAGE " + none, x.weight(none, 0, 1300), NONE);
            Due.same("42: no PAGE " + none, x.serves(none, 1300, 1, 0), NONE);
        }
    }

    private static void weightsAtTheMost() {
        PotBook x = new PotBook();
        for (int k = 0; k < 8; k++) {
            x.thing(1, 1, 1, false, 1, 12);
            x.sized(k, 1999, 999);
        }
        Due.tell(x, "a99,b99,c99,d99,e99,f99,g99,h99", 0);
        Due.tell(x, "a1", 0);
        Due.same("41: the most", x.weight(0, 0, 1200), 8 * 99 * 999);
        Due.same("42: to 1", x.serves(0, 1999, 1, 1), 791208);
        Due.same("42: to 9999", x.serves(0, 1999, 9999, 1), 79);
        Due.same("42: one THING to 999", x.serves(1, 1999, 999, 0), 1);
        Due.same("42: one THING to 1000", x.serves(1, 1999, 1000, 0), 0);
    }

    /** MESSES of so much each (1 .. 9,999): how many it is for, cut. */
    private static void messesOfEach() {
        PotBook x = with("a4,b2");
        int[][] due = {{1, 60}, {2, 30}, {7, 8}, {30, 2}, {31, 1}, {59, 1}, {60, 1}, {61, 0}, {9999, 0}};
        for (int[] d : due) {
            Due.same("42: to " + d[0], x.serves(0, 1400, d[0], 0), d[1]);
            Due.same("42: to " + d[0], x.serves(0, 1400, d[0], 1), d[1]);
        }
        for (int none : new int[] {0, -1, 10000, MIN, MAX}) {
            Due.same("42: to " + none, x.serves(0, 1400, none, 0), NONE);
            Due.same("42: to " + none, x.serves(0, 1400, none, 1), NONE);
        }
        for (int none : new int[] {-1, 2, MIN, MAX}) {
            Due.same("42: no such side " + none, x.serves(0, 1400, 1, none), NONE);
        }
    }

    /** FOR: the least, the greatest of all DISHES. */
    private static void messesOfAllDishes() {
        PotBook x = with("a1-3,b");
        Due.tell(x, "y:[w-2]*[w-2]*10+s", 1);
        x.sized(0, 1400, 1);
        Due.same("42: 1 and 10", x.serves(0, 1400, 1, 0), 11);
        Due.same("42: 3 and 60", x.serves(0, 1400, 1, 1), 63);
        x.most(20);
        Due.same("42: 3 and 200", x.serves(0, 1400, 1, 1), 203);
        x.hold(0, 0, 1, 4);
        Due.same("42: 2 and 10", x.serves(0, 1400, 1, 0), 12);
        Due.same("42: 2 and 40", x.serves(0, 1400, 1, 1), 42);
        Due.same("42: cut", x.serves(0, 1400, 13, 0), 0);
        Due.same("42: cut", x.serves(0, 1400, 13, 1), 3);
        x.hold(0, 0, 3, 3);
        Due.same("42: one DISH", x.serves(0, 1400, 1, 0), 32);
        Due.same("42: one DISH", x.serves(0, 1400, 1, 1), 32);
        PotBook y = with("a1-2", "c4-5,b2");
        Due.same("42: two DISHES", y.serves(0, 1400, 1, 0), 10);
        Due.same("42: two DISHES", y.serves(0, 1400, 1, 1), 20);
        Due.same("42: two DISHES", y.serves(1, 1400, 1, 0), 60);
        Due.same("42: two DISHES", y.serves(1, 1400, 1, 1), 70);
    }

    /** HEAT is 10 at first; minutes till it is 100 or more. */
    private static void boilAtTheFirstMinute() {
        PotBook x = with("b1");
        // a pot of 1 has 10: 10 times the fire each minute, as nothing is WET
        int[] due = {11, 5, 4, 3, 2, 2, 2, 2, 1, 1};
        for (int fire = 1; fire <= 10; fire++) {
            Due.same("43: fire " + fire, x.boil(0, 0, 1, fire), due[fire - 1]);
        }
        Due.same("43: fire 99", x.boil(0, 0, 1, 99), 1);
    }

    /** A pot (1 .. 99) on a fire (1 .. 99): 100 times the fire by (10 times the pot and all WET of the DISH), cut. */
    private static void boilOfPotAndFire() {
        PotBook x = new PotBook();
        x.thing(1, 0, 0, false, 1, 12);
        x.thing(99, 0, 0, false, 1, 12);
        x.thing(0, 9, 9, false, 1, 12);
        String[] texts = {"a1", "a36", "a37", "b1", "b99", "a1,b1", "c9", "a1-2"};
        for (String text : texts) {
            Due.tell(x, text, 0);
        }
        // 41 by 46 is 89, by 45 is 91; 9 by 11 is 81
        int[][] due = {{0, 1, 9, 2}, {6, 1, 9, 1}, {1, 1, 41, 2}, {1, 1, 42, 1}, {2, 1, 42, 2}, {6, 99, 99, 11}, {0, 99, 99, 13},
            {3, 99, 99, 13}, {4, 1, 99, NONE}, {5, 1, 99, 1}, {7, 1, 10, 1}};
        for (int[] d : due) {
            Due.same("43: " + texts[d[0]] + " in " + d[1] + " on " + d[2], x.boil(d[0], 0, d[1], d[2]), d[3]);
        }
        Due.same("43: the second DISH", x.boil(7, 1, 1, 10), 2);
        for (int none : new int[] {0, -1, 100, MIN, MAX}) {
            Due.same("43: no pot " + none, x.boil(6, 0, none, 99), NONE);
            Due.same("43: no pot " + none + " of what is WET", x.boil(0, 0, none, 99), NONE);
            Due.same("43: no fire " + none, x.boil(6, 0, 1, none), NONE);
        }
        for (int none : new int[] {-1, 1, MIN, MAX}) {
            Due.same("43: no DISH " + none, x.boil(6, none, 1, 99), NONE);
        }
        for (int none : new int[] {-1, 8, 16, MIN, MAX}) {
            Due.same("43: no PAGE " + none, x.boil(none, 0, 1, 99), NONE);
        }
    }

    /** Each minute it becomes more by so much, less HEAT by 25, cut: of so much each minute, by hand. */
    private static void boilMinuteByMinute() {
        PotBook x = with("b1");
        // gain 4: 10 14 18 22 26 29 32 35 38 41 44 47 50 52 .. 74 76 77 .. 100: 12 to 50, 25 to 76, 49 to 100
        // gain 5: 10 15 20 25 29 .. 49 53 56 .. 74 77 79 ..; gain 9: 10 19 28 36 44 52 59 66 73 80 86 92 98 104
        int[][] due = {{10, 4, 49}, {10, 9, 13}, {20, 8, 49}, {50, 20, 49}, {25, 10, 49}, {99, 40, 49}, {97, 40, 49}};
        for (int[] d : due) {
            Due.same("43: pot " + d[0] + ", fire " + d[1], x.boil(0, 0, d[0], d[1]), d[2]);
        }
        for (int pot = 1; pot <= 99; pot += 7) {
            for (int fire = 1; fire <= 99; fire += 6) {
                int minutes = 0;
                int heat = 10;
                while (heat < 100 && minutes <= 200) {
                    heat = heat + 100 * fire / (10 * pot) - heat / 25;
                    minutes++;
                }
                Due.same("43: pot " + pot + ", fire " + fire, x.boil(0, 0, pot, fire), minutes > 200 ? NONE : minutes);
            }
        }
    }

    /** 200 at most: with 4 more each minute it takes 49, with 3 or less it never comes to 100. */
    private static void boilNever() {
        PotBook x = with("b1", "a99");
        int[][] due = {{33, 10, NONE}, {34, 10, NONE}, {50, 10, NONE}, {50, 11, NONE}, {99, 9, NONE}, {99, 10, NONE}, {99, 1, NONE},
            {99, 29, NONE}, {99, 39, NONE}, {97, 39, 49}};
        for (int[] d : due) {
            Due.same("43: pot " + d[0] + ", fire " + d[1], x.boil(0, 0, d[0], d[1]), d[2]);
        }
        Due.same("43: WET 99", x.boil(1, 0, 1, 4), NONE);
        Due.same("43: WET 99", x.boil(1, 0, 1, 5), 49);
    }

    /** Of pairs of its DISHES with unlike WORTH by both how many go the same way, less how many go the other. */
    private static void softerPairs() {
        PotBook x = with("a1-3", "a1-2,b1-2", "a1", "a1-2");
        String[] laws = {"y:w", "y:0-w", "y:5", "y:w=2?9;y:1", "y:w-s", "y:s"};
        for (String law : laws) {
            Due.tell(x, law, 1);
        }
        int[][] due = {{0, 0, 0, 3}, {0, 0, 1, -3}, {0, 1, 1, 3}, {0, 0, 2, 0}, {0, 2, 2, 0}, {0, 0, 3, 0}, {0, 3, 3, 2},
            {1, 0, 5, 0}, {1, 0, 4, 3}, {1, 4, 5, -3}, {1, 0, 0, 4}, {2, 0, 0, 0}, {3, 0, 0, 1}, {3, 0, 1, -1}, {3, 0, 5, 0}};
        for (int[] d : due) {
            Due.same("53: PAGE " + d[0] + " " + laws[d[1]] + " " + laws[d[2]], x.softer(d[0], d[1], d[2]), d[3]);
            Due.same("53: PAGE " + d[0] + " " + laws[d[2]] + " " + laws[d[1]], x.softer(d[0], d[2], d[1]), d[3]);
        }
        for (int none : new int[] {-1, 6, MIN, MAX}) {
            Due.same("53: no LAW " + none, x.softer(0, none, 0), HIDDEN);
            Due.same("53: no LAW " + none, x.softer(0, 0, none), HIDDEN);
        }
        for (int none : new int[] {-1, 4, 16, MIN, MAX}) {
            Due.same("53: no PAGE " + none, x.softer(none, 0, 0), HIDDEN);
        }
    }

    /** Told with 300 DISHES at most. */
    private static void softerTo300() {
        PotBook x = with("a1-10,b1-30", "a1-43,b1-7", "a1-23,b1-13", "a1-99,b1-50", "a1-50,b1-50,c1-2", "a1-41,b1-61,c1-2");
        Due.tell(x, "y:w*100+s", 1);
        Due.same("12: 300", x.dishes(0), 300);
        Due.same("53: 300", x.softer(0, 0, 0), 300 * 299 / 2);
        Due.same("12: 301", x.dishes(1), 301);
        Due.same("53: 301", x.softer(1, 0, 0), HIDDEN);
        Due.same("12: 299", x.dishes(2), 299);
        Due.same("53: 299", x.softer(2, 0, 0), 299 * 298 / 2);
        Due.same("53: 4950", x.softer(3, 0, 0), HIDDEN);
        Due.same("53: 5000", x.softer(4, 0, 0), HIDDEN);
        Due.same("53: not told", x.softer(5, 0, 0), HIDDEN);
        x.hold(1, 0, 102, 1000000);
        Due.same("53: 300 that are kept", x.softer(1, 0, 0), 300 * 299 / 2);
        x.hold(3, 0, 101, 650);
        Due.same("53: 300 that are kept", x.softer(3, 0, 0), 300 * 299 / 2);
    }

    /** SWAPPED: how many of its DISHES are such, too, with PARTS of these changed about. */
    private static void swappedParts() {
        String[][] texts = {{"a,b", "36"}, {"a1-3,b", "9"}, {"a1-3,b3-5", "1"}, {"a1-3,b4-6", "0"}, {"a2,b2", "1"}, {"a2,b3", "0"},
            {"a1-9,b2-4", "9"}, {"b1-2,c1-2,a1-2", "8"}, {"b1-2,c7,a2-3", "1"}, {"a98-99,b1-99", "4"}, {"a1-50,b1-50,c1-2", "5000"}};
        for (String[] text : texts) {
            PotBook x = with(text[0]);
            Due.same("54: " + text[0], x.swapped(0, 0, 1), Integer.parseInt(text[1]));
            Due.same("54: the other way, " + text[0], x.swapped(0, 1, 0), Integer.parseInt(text[1]));
        }
        PotBook x = with("a,b");
        for (int most = 1; most <= 20; most++) {
            x.most(most);
            Due.same("54: to " + most, x.swapped(0, 0, 1), most * most);
        }
    }

    private static void swappedHeld() {
        PotBook x = with("a,b", "b,c1-2,a");
        Due.tell(x, "y:w-s", 1);
        Due.tell(x, "y:w+s+f", 1);
        int[][] due = {{0, -5, 5, 36}, {0, -4, 5, 34}, {0, -3, 5, 30}, {0, -1, 4, 16}, {0, 0, 4, 6}};
        for (int[] d : due) {
            Due.same("11: a HOLD", x.hold(d[0], 0, d[1], d[2]) > 0 ? 1 : 0, 1);
            Due.same("54: from " + d[1] + " to " + d[2], x.swapped(0, 0, 1), d[3]);
            Due.same("54: the other way from " + d[1] + " to " + d[2], x.swapped(0, 1, 0), d[3]);
        }
        x.hold(0, 0, 1, 4);
        Due.same("54: none of several", x.swapped(0, 0, 1), 0);
        Due.same("12: several", x.dishes(0), 14);
        x.hold(0, 0, 9, 9);
        Due.same("54: no DISHES", x.swapped(0, 0, 1), 0);
        x.hold(1, 1, 14, 14);
        Due.same("54: 6 2 6 alone", x.swapped(1, 0, 1), 1);
        Due.same("54: 6 2 6 alone", x.swapped(1, 1, 2), 0);
    }

    private static void swappedRefused() {
        PotBook x = with("a,b", "a", "a1-41,b1-61,c1-2");
        for (int thing = 0; thing < 4; thing++) {
            for (int page = 0; page < 3; page++) {
                Due.same("54: alike", x.swapped(page, thing, thing), NONE);
            }
        }
        Due.same("54: not on the PAGE", x.swapped(0, 0, 2), NONE);
        Due.same("54: not on the PAGE", x.swapped(0, 2, 0), NONE);
        Due.same("54: not on the PAGE", x.swapped(1, 0, 1), NONE);
        Due.same("54: not told", x.swapped(2, 0, 1), NONE);
        for (int none : new int[] {-1, 3, 12, 31, 32, MIN, MAX}) {
            Due.same("54: no THING " + none, x.swapped(0, none, 0), NONE);
            Due.same("54: no THING " + none, x.swapped(0, 0, none), NONE);
            Due.same("54: no PAGE " + none, x.swapped(none, 0, 1), NONE);
        }
    }

    /** count: NONE for others. */
    private static void counts() {
        PotBook x = with("a", "a");
        for (int k = 0; k < 4; k++) {
            Due.tell(x, "y:n", 1);
        }
        for (int k = 0; k < 5; k++) {
            x.hold(0, 0, 1, 1);
        }
        for (int k = 0; k < 7; k++) {
            x.trial(0, 1, true);
        }
        for (int k = 0; k < 8; k++) {
            x.book(NONE);
        }
        for (int k = 0; k < 9; k++) {
            x.day(1, false);
        }
        x.feed(1, 0x101, 0x10101, 0x1010101, 0);
        x.most(11);
        int[] due = {2, 4, 3, 5, 7, 8, 9, 10, 11};
        for (int what = 0; what < 9; what++) {
            Due.same("55: " + what, x.count(what), due[what]);
        }
        for (int none : new int[] {-1, 9, MIN, MAX}) {
            Due.same("55: " + none, x.count(none), NONE);
        }
    }

    private static void constants() {
        Due.same("NONE", PotBook.NONE, -1);
        Due.same("HIDDEN", PotBook.HIDDEN, -10000000);
    }
}
