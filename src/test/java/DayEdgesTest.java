/** The edges that "Terms" names of DAYS, what is BOUGHT, SERVED, MENUS, LACKING, ENOUGH, WASTED, LEAN. */
public final class DayEdgesTest {
    private static final int NONE = -1;
    private static final int MIN = Integer.MIN_VALUE;
    private static final int MAX = Integer.MAX_VALUE;

    public static void main(String[] args) {
        tenDays();
        boughtFromNoneTo999();
        servedByMonths();
        servedByFish();
        servedByDishes();
        pagesAsked();
        overFromNoneTo99();
        messesFromNoneToNine();
        boughtOrSoMuchLess();
        thingsOfTheseAlone();
        thingsOfThoseThatMayNot();
        menusInOrder();
        menusInAllAndInSome();
        withoutMenus();
        oneMenuAlone();
        allMenus();
        lackingFromOneTo99();
        enoughToNinetyNine();
        wastedAndLean();
        leanOfSeveral();
        Due.close("DayEdgesTest");
    }

    /** THINGS for the whole year, without FLESH. */
    private static PotBook with(int things, String... texts) {
        PotBook x = new PotBook();
        for (int k = 0; k < things; k++) {
            x.thing(1, 1, 1, false, 1, 12);
        }
        for (int k = 0; k < texts.length; k++) {
            Due.same("5: " + texts[k], Due.tell(x, texts[k], 0), k);
        }
        return x;
    }

    /** DAYS (10 at most): the month (1 .. 12). */
    private static void tenDays() {
        PotBook x = with(1, "a1");
        for (int month : new int[] {0, 13, -1, MIN, MAX}) {
            Due.same("29: month " + month, x.day(month, false), NONE);
            Due.same("29: month " + month, x.day(month, true), NONE);
        }
        Due.same("55: none", x.count(6), 0);
        for (int k = 0; k < 10; k++) {
            Due.same("31: not told ahead", x.may(k, 0), NONE);
            Due.same("29: a DAY", x.day(k == 9 ? 12 : k + 1, k % 2 == 0), k);
            Due.same("31: told", x.may(k, 0), 1);
        }
        Due.same("29: an eleventh", x.day(1, false), NONE);
        Due.same("31: no eleventh", x.may(10, 0), NONE);
        Due.same("55: ten", x.count(6), 10);
    }

    /** What was BOUGHT of each THING (0 .. 999; 0 at first). */
    private static void boughtFromNoneTo999() {
        PotBook x = with(3, "a10", "b10");
        x.day(1, false);
        x.day(1, false);
        Due.same("50: 0 at first", x.enough(0, 0, 0), 0);
        Due.same("49: 0 at first", x.lacking(0, 0, 0, 1), 1);
        for (int v : new int[] {-1, 1000, MIN, MAX}) {
            Due.is("30: " + v, x.bought(0, 0, v), false);
            Due.same("30: it changes nothing", x.enough(0, 0, 0), 0);
        }
        Due.is("30: 999", x.bought(0, 0, 999), true);
        Due.same("50: 999", x.enough(0, 0, 0), 99);
        Due.same("49: 99 by ten are 990", x.lacking(0, 0, 0, 99), 0);
        Due.is("30: 1000", x.bought(0, 0, 1000), false);
        Due.same("30: it changes nothing", x.enough(0, 0, 0), 99);
        Due.same("30: of another THING nothing", x.enough(0, 1, 0), 0);
        Due.same("30: on another DAY nothing", x.enough(1, 0, 0), 0);
        Due.is("30: told anew", x.bought(0, 0, 10), true);
        Due.same("50: told anew, not more", x.enough(0, 0, 0), 1);
        Due.is("30: 0", x.bought(0, 0, 0), true);
        Due.same("50: 0", x.enough(0, 0, 0), 0);
        for (int none : new int[] {-1, 3, 12, MIN, MAX}) {
            Due.is("30: no THING " + none, x.bought(0, none, 5), false);
        }
        for (int none : new int[] {-1, 2, 10, MIN, MAX}) {
            Due.is("30: no DAY " + none, x.bought(none, 0, 5), false);
        }
    }

    /** All its THINGS are to be had. */
    private static void servedByMonths() {
        PotBook x = new PotBook();
        x.thing(1, 1, 1, false, 3, 5);
        x.thing(1, 1, 1, false, 11, 2);
        x.thing(1, 1, 1, false, 5, 11);
        x.thing(1, 1, 1, false, 7, 7);
        String[] texts = {"a1", "b1", "c1", "d1", "a1,c1", "b1,c1", "c1,d1", "a1,b1"};
        int[][] months = {{3, 4, 5}, {11, 12, 1, 2}, {5, 6, 7, 8, 9, 10, 11}, {7}, {5}, {11}, {7}, {}};
        for (String text : texts) {
            Due.tell(x, text, 0);
        }
        PotBook y = x;
        for (int month = 1; month <= 12; month++) {
            int day = y.day(month, month % 2 == 0);
            if (day == NONE) {
                y = new PotBook();
                y.thing(1, 1, 1, false, 3, 5);
                y.thing(1, 1, 1, false, 11, 2);
                y.thing(1, 1, 1, false, 5, 11);
                y.thing(1, 1, 1, false, 7, 7);
                for (String text : texts) {
                    Due.tell(y, text, 0);
                }
                day = y.day(month, month % 2 == 0);
            }
            for (int page = 0; page < texts.length; page++) {
                boolean due = false;
                for (int m : months[page]) {
                    due |= m == month;
                }
                Due.same("31: " + texts[page] + " in " + month, y.may(day, page), due ? 1 : 0);
            }
        }
    }

    /** No FLESH with FISH. */
    private static void servedByFish() {
        PotBook x = new PotBook();
        x.thing(1, 1, 1, false, 1, 12);
        x.thing(1, 1, 1, true, 1, 12);
        String[] texts = {"a1", "b1", "a1,b1"};
        for (String text : texts) {
            Due.tell(x, text, 0);
        }
        x.day(5, true);
        x.day(5, false);
        int[][] due = {{1, 0, 0}, {1, 1, 1}};
        for (int day = 0; day < 2; day++) {
            for (int page = 0; page < 3; page++) {
                Due.same("31: " + texts[page] + " on DAY " + day, x.may(day, page), due[day][page]);
            }
        }
    }

    /** It has one DISH alone: not none, not two, not what is not told. */
    private static void servedByDishes() {
        PotBook x = with(3, "a1", "a1-2", "a", "a3-3", "a1-99,b1-99");
        Due.tell(x, "y:n", 1);
        x.day(1, false);
        int[] due = {1, 0, 0, 1, 0};
        for (int page = 0; page < 5; page++) {
            Due.same("31: PAGE " + page, x.may(0, page), due[page]);
        }
        x.most(1);
        Due.same("31: LEFT OUT, to 1", x.may(0, 2), 1);
        x.most(2);
        Due.same("31: LEFT OUT, to 2", x.may(0, 2), 0);
        x.hold(2, 0, 2, 9);
        Due.same("31: held to one", x.may(0, 2), 1);
        x.bought(0, 0, 8);
        Due.same("33: by the one that is kept", x.messes(0, 4, 0, 0, 2), 4);
        x.hold(2, 0, 3, 9);
        Due.same("31: held to none", x.may(0, 2), 0);
        Due.same("32: held to none", x.menu(0, 4, 8, 4), 0);
        x.most(3);
        Due.same("31: held to one by more MOST", x.may(0, 2), 1);
        x.hold(4, 0, 2, 2);
        Due.same("31: not told, held to one", x.may(0, 4), 0);
        for (int none : new int[] {-1, 5, 16, MIN, MAX}) {
            Due.same("31: no PAGE " + none, x.may(0, none), NONE);
        }
        for (int none : new int[] {-1, 1, 10, MIN, MAX}) {
            Due.same("31: no DAY " + none, x.may(none, 0), NONE);
        }
    }

    /** Some PAGES (bits; five at most). */
    private static void pagesAsked() {
        PotBook x = with(1, "a1", "a1", "a1", "a1", "a1", "a1");
        x.day(1, false);
        for (int bits = 0; bits < 130; bits++) {
            boolean asked = bits > 0 && bits < 64 && bits != 63;
            Due.same("32: " + bits, x.menu(0, bits, 0, 0), asked ? 1 : NONE);
            Due.same("52: " + bits, x.lean(0, bits, 0, 2), asked ? 0 : NONE);
        }
        for (int bits : new int[] {-1, -64, MIN, MAX, MIN | 1, 1 << 30, 1 << 30 | 1, 1 << 16}) {
            Due.same("32: " + bits, x.menu(0, bits, 0, 0), NONE);
            Due.same("33: " + bits, x.messes(0, bits, 0, 0, 0), NONE);
            Due.same("51: " + bits, x.wasted(0, bits, 0, 0), NONE);
            Due.same("52: " + bits, x.lean(0, bits, 0, 0), NONE);
        }
    }

    /** What may be OVER (0 .. 99). */
    private static void overFromNoneTo99() {
        PotBook x = with(1, "a20");
        x.day(1, false);
        x.bought(0, 0, 99);
        // 0 .. 4 messes leave 99, 79, 59, 39, 19
        int[][] due = {{0, 0}, {18, 0}, {19, 1}, {38, 1}, {39, 2}, {98, 4}, {99, 5}};
        for (int[] d : due) {
            Due.same("32: OVER " + d[0], x.menu(0, 1, d[0], 0), d[1]);
        }
        for (int over : new int[] {-1, 100, MIN, MAX}) {
            Due.same("32: OVER " + over, x.menu(0, 1, over, 0), NONE);
            Due.same("33: OVER " + over, x.messes(0, 1, over, 0, 0), NONE);
            Due.same("51: OVER " + over, x.wasted(0, 1, over, 0), NONE);
            Due.same("52: OVER " + over, x.lean(0, 1, over, 0), NONE);
        }
        x.bought(0, 0, 100);
        Due.same("32: 100 are one too many over", x.menu(0, 1, 99, 0), 5);
        Due.same("33: from one mess on", x.messes(0, 1, 99, 0, 0), 1);
    }

    /** Messes (0 .. 9) of each. */
    private static void messesFromNoneToNine() {
        PotBook x = with(1, "a11");
        x.day(1, false);
        for (int messes = 0; messes <= 10; messes++) {
            x.bought(0, 0, 11 * messes);
            Due.same("32: exactly " + messes, x.menu(0, 1, 0, 0), messes <= 9 ? 1 : 0);
            Due.same("33: exactly " + messes, x.messes(0, 1, 0, 0, 0), messes <= 9 ? messes : NONE);
            Due.same("32: the most", x.menu(0, 1, 99, 4), Math.min(messes, 9));
            Due.same("32: the fewest", x.menu(0, 1, 99, 3), messes == 10 ? 1 : 0);
        }
        x.bought(0, 0, 99 + 99);
        Due.same("32: nine and 99 over", x.menu(0, 1, 99, 0), 1);
        x.bought(0, 0, 99 + 100);
        Due.same("32: nine and 100 over", x.menu(0, 1, 99, 0), 0);
    }

    /** The PARTS times messes are BOUGHT, or so much less at most. */
    private static void boughtOrSoMuchLess() {
        PotBook x = with(2, "a3,b2");
        x.day(1, false);
        for (int a = 0; a <= 9; a++) {
            for (int b = 0; b <= 6; b++) {
                x.bought(0, 0, a);
                x.bought(0, 1, b);
                int due = 0;
                for (int m = 0; m <= 9; m++) {
                    due += 3 * m <= a && a - 3 * m <= 2 && 2 * m <= b && b - 2 * m <= 2 ? 1 : 0;
                }
                Due.same("32: of a " + a + ", of b " + b, x.menu(0, 1, 2, 0), due);
            }
        }
    }

    private static void thingsOfTheseAlone() {
        PotBook x = with(3, "a1", "b1", "a1,b1");
        x.day(1, false);
        x.bought(0, 0, 2);
        x.bought(0, 1, 500);
        x.bought(0, 2, 999);
        Due.same("32: b and c are not of PAGE 0", x.menu(0, 1, 0, 0), 1);
        Due.same("51: b and c are not of PAGE 0", x.wasted(0, 1, 0, 0), 0);
        Due.same("32: b is of PAGE 1", x.menu(0, 3, 99, 0), 0);
        Due.same("32: b is of PAGE 2", x.menu(0, 4, 99, 0), 0);
        x.bought(0, 1, 11);
        Due.same("32: b by two PAGES", x.menu(0, 6, 0, 0), 1);
        Due.same("33: b by two PAGES", x.messes(0, 6, 0, 0, 1), 9);
        Due.same("33: a by one PAGE", x.messes(0, 6, 0, 0, 2), 2);
    }

    /** Messes 0 of those that may not; their THINGS are of these PAGES, too. */
    private static void thingsOfThoseThatMayNot() {
        PotBook x = with(3, "a1", "a1-2,b1", "c");
        x.day(1, false);
        x.bought(0, 0, 3);
        x.bought(0, 1, 4);
        Due.same("32: b is over", x.menu(0, 3, 3, 0), 0);
        Due.same("32: b may be over", x.menu(0, 3, 4, 0), 4);
        Due.same("33: 0 of those that may not", x.messes(0, 3, 4, 3, 1), 0);
        Due.same("33: of the other", x.messes(0, 3, 4, 3, 0), 3);
        Due.same("51: b is over", x.wasted(0, 3, 4, 3), 4);
        Due.same("32: nothing is BOUGHT of c", x.menu(0, 5, 0, 0), 1);
        Due.same("33: 0 of c", x.messes(0, 5, 0, 0, 2), 0);
        Due.same("32: of c alone", x.menu(0, 4, 0, 0), 1);
        Due.same("32: of c alone", x.menu(0, 4, 0, 4), 0);
        x.bought(0, 2, 1);
        Due.same("32: c is over", x.menu(0, 4, 0, 0), 0);
        Due.same("32: c may be over", x.menu(0, 4, 1, 0), 1);
    }

    /** MENUS by the messes of the lowest PAGE, then the next, and so on; numbered from 0 on. */
    private static void menusInOrder() {
        PotBook x = with(2, "b1", "a1", "b1", "a1");
        x.day(1, false);
        x.bought(0, 0, 1);
        x.bought(0, 1, 2);
        int i = 0;
        for (int p0 = 0; p0 <= 2; p0++) {
            for (int p1 = 0; p1 <= 1; p1++) {
                int[] due = {p0, p1, 2 - p0, 1 - p1};
                for (int page = 0; page < 4; page++) {
                    Due.same("33: MENU " + i + " PAGE " + page, x.messes(0, 15, 0, i, page), due[page]);
                }
                i++;
            }
        }
        Due.same("32: so many", x.menu(0, 15, 0, 0), i);
        for (int none : new int[] {-1, i, 99999, MIN, MAX}) {
            Due.same("33: no MENU " + none, x.messes(0, 15, 0, none, 0), NONE);
            Due.same("51: no MENU " + none, x.wasted(0, 15, 0, none), NONE);
        }
        for (int none : new int[] {-1, 4, 16, 31, 32, MIN, MAX}) {
            Due.same("33: no PAGE " + none, x.messes(0, 15, 0, 0, none), NONE);
        }
        Due.same("33: not of these", x.messes(0, 5, 0, 0, 1), NONE);
        Due.same("33: of these", x.messes(0, 5, 0, 0, 2), 2);
    }

    /** PAGES with messes in all of these, in some; the fewest, the most messes together. */
    private static void menusInAllAndInSome() {
        PotBook x = with(3, "a1", "a1", "b2", "c1", "b1,c1");
        x.day(1, false);
        x.bought(0, 0, 1);
        x.bought(0, 1, 2);
        // of a by PAGE 0 or 1; of b by PAGE 2
        Due.same("32: in all", x.menu(0, 7, 0, 1), 4);
        Due.same("32: in some", x.menu(0, 7, 0, 2), 7);
        Due.same("32: the fewest", x.menu(0, 7, 0, 3), 2);
        Due.same("32: the most", x.menu(0, 7, 0, 4), 2);
        Due.same("32: none in all with OVER", x.menu(0, 7, 2, 1), 0);
        Due.same("32: the fewest with OVER", x.menu(0, 7, 2, 3), 0);
        Due.same("32: of c nothing", x.menu(0, 15, 0, 2), 7);
        Due.same("32: of b and c nothing", x.menu(0, 31, 0, 2), 7);
        x.bought(0, 2, 2);
        // of b and c by PAGES 2 and 3, or by PAGE 4
        Due.same("32: MENUS", x.menu(0, 31, 0, 0), 4);
        Due.same("32: none in all", x.menu(0, 31, 0, 1), 0);
        Due.same("32: all in some", x.menu(0, 31, 0, 2), 31);
        Due.same("32: the fewest", x.menu(0, 31, 0, 3), 3);
        Due.same("32: the most", x.menu(0, 31, 0, 4), 4);
    }

    private static void withoutMenus() {
        PotBook x = with(1, "a2");
        x.day(1, false);
        x.bought(0, 0, 2);
        Due.same("32: one that is in all", x.menu(0, 1, 0, 1), 1);
        Due.same("52: one", x.lean(0, 1, 0, 0), 1);
        x.bought(0, 0, 1);
        int[] due = {0, 0, 0, NONE, NONE};
        for (int what = 0; what < 5; what++) {
            Due.same("32: without any, " + what, x.menu(0, 1, 0, what), due[what]);
        }
        for (int what = 0; what < 3; what++) {
            Due.same("52: without any, " + what, x.lean(0, 1, 0, what), NONE);
        }
        for (int i : new int[] {-1, 0, 1, MIN, MAX}) {
            Due.same("33: without any, " + i, x.messes(0, 1, 0, i, 0), NONE);
            Due.same("51: without any, " + i, x.wasted(0, 1, 0, i), NONE);
        }
        for (int what : new int[] {-1, 5, MIN, MAX}) {
            Due.same("32: no such number " + what, x.menu(0, 1, 1, what), NONE);
        }
        for (int what : new int[] {-1, 3, MIN, MAX}) {
            Due.same("52: no such number " + what, x.lean(0, 1, 1, what), NONE);
        }
        for (int none : new int[] {-1, 1, 10, MIN, MAX}) {
            Due.same("32: no DAY " + none, x.menu(none, 1, 0, 0), NONE);
            Due.same("33: no DAY " + none, x.messes(none, 1, 0, 0, 0), NONE);
            Due.same("51: no DAY " + none, x.wasted(none, 1, 0, 0), NONE);
            Due.same("52: no DAY " + none, x.lean(none, 1, 0, 0), NONE);
        }
    }

    private static void oneMenuAlone() {
        PotBook x = with(1, "a2");
        x.day(1, false);
        int[] none = {1, 0, 0, 0, 0};
        for (int what = 0; what < 5; what++) {
            Due.same("32: nothing BOUGHT, " + what, x.menu(0, 1, 0, what), none[what]);
        }
        Due.same("33: nothing BOUGHT", x.messes(0, 1, 0, 0, 0), 0);
        Due.same("51: nothing BOUGHT", x.wasted(0, 1, 0, 0), 0);
        Due.same("52: nothing BOUGHT", x.lean(0, 1, 0, 0) * 100 + x.lean(0, 1, 0, 1) * 10 + x.lean(0, 1, 0, 2), 100);
        x.bought(0, 0, 18);
        int[] nine = {1, 1, 1, 9, 9};
        for (int what = 0; what < 5; what++) {
            Due.same("32: nine, " + what, x.menu(0, 1, 0, what), nine[what]);
        }
    }

    private static void allMenus() {
        PotBook x = with(5, "a1", "b1", "c1", "d1", "e1");
        x.day(1, false);
        for (int k = 0; k < 5; k++) {
            x.bought(0, k, 108);
        }
        Due.same("32: 0 .. 9 of five", x.menu(0, 31, 99, 0), 1);
        for (int k = 0; k < 5; k++) {
            x.bought(0, k, 99);
        }
        Due.same("32: 0 .. 9 of five", x.menu(0, 31, 99, 0), 100000);
        Due.same("32: in all", x.menu(0, 31, 99, 1), 0);
        Due.same("32: in some", x.menu(0, 31, 99, 2), 31);
        Due.same("32: the fewest", x.menu(0, 31, 99, 3), 0);
        Due.same("32: the most", x.menu(0, 31, 99, 4), 45);
        int[] last = {0, 1, 9, 10, 12345, 99998, 99999};
        for (int i : last) {
            int rest = i;
            int wasted = 5 * 99;
            for (int page = 4; page >= 0; page--) {
                Due.same("33: MENU " + i + " PAGE " + page, x.messes(0, 31, 99, i, page), rest % 10);
                wasted -= rest % 10;
                rest /= 10;
            }
            Due.same("51: MENU " + i, x.wasted(0, 31, 99, i), wasted);
        }
        Due.same("33: no more", x.messes(0, 31, 99, 100000, 0), NONE);
        Due.same("51: no more", x.wasted(0, 31, 99, 100000), NONE);
        Due.same("52: one", x.lean(0, 31, 99, 0), 1);
        Due.same("52: the last", x.lean(0, 31, 99, 1), 99999);
        Due.same("52: 90 of each", x.lean(0, 31, 99, 2), 450);
    }

    /** LACKING for so many messes (1 .. 99): THINGS of which PARTS times messes are more than BOUGHT. */
    private static void lackingFromOneTo99() {
        PotBook x = with(3, "c3,a1", "b99");
        x.day(1, false);
        x.bought(0, 0, 98);
        x.bought(0, 2, 297);
        x.bought(0, 1, 99);
        int[][] due = {{1, 0}, {98, 0}, {99, 1}};
        for (int[] d : due) {
            Due.same("49: " + d[0] + " messes", x.lacking(0, 0, 0, d[0]), d[1]);
        }
        x.bought(0, 2, 296);
        Due.same("49: one less of c", x.lacking(0, 0, 0, 98), 0);
        Due.same("49: one less of c", x.lacking(0, 0, 0, 99), 5);
        x.bought(0, 0, 0);
        Due.same("49: none of a", x.lacking(0, 0, 0, 1), 1);
        Due.same("49: 99 of b", x.lacking(0, 1, 0, 1), 0);
        Due.same("49: 198 of b", x.lacking(0, 1, 0, 2), 2);
        Due.same("49: 9801 of b", x.lacking(0, 1, 0, 99), 2);
        for (int none : new int[] {0, 100, -1, MIN, MAX}) {
            Due.same("49: messes " + none, x.lacking(0, 0, 0, none), NONE);
        }
        for (int none : new int[] {-1, 1, MIN, MAX}) {
            Due.same("49: no DISH " + none, x.lacking(0, 0, none, 1), NONE);
            Due.same("49: no DAY " + none, x.lacking(none, 0, 0, 1), NONE);
            Due.same("49: no PAGE " + (none == 1 ? 2 : none), x.lacking(0, none == 1 ? 2 : none, 0, 1), NONE);
            Due.same("50: no DISH " + none, x.enough(0, 0, none), NONE);
            Due.same("50: no DAY " + none, x.enough(none, 0, 0), NONE);
            Due.same("50: no PAGE " + (none == 1 ? 2 : none), x.enough(0, none == 1 ? 2 : none, 0), NONE);
        }
    }

    /** ENOUGH: the most messes (to 99) by which nothing is LACKING (0 .. 99). */
    private static void enoughToNinetyNine() {
        PotBook x = with(3, "a2,c1", "a7");
        x.day(6, true);
        int[][] due = {{0, 0, 0}, {1, 999, 0}, {2, 1, 1}, {2, 0, 0}, {3, 5, 1}, {4, 5, 2}, {196, 999, 98}, {197, 99, 98},
            {198, 99, 99}, {198, 98, 98}, {199, 100, 99}, {999, 999, 99}};
        for (int[] d : due) {
            x.bought(0, 0, d[0]);
            x.bought(0, 2, d[1]);
            Due.same("50: of a " + d[0] + ", of c " + d[1], x.enough(0, 0, 0), d[2]);
            for (int messes = 1; messes <= 99; messes += messes == 1 ? 1 : 97) {
                Due.is("49: it is LACKING above", x.lacking(0, 0, 0, messes) != 0, messes > d[2]);
            }
        }
        x.bought(0, 0, 692);
        Due.same("50: 98 by seven", x.enough(0, 1, 0), 98);
        x.bought(0, 0, 693);
        Due.same("50: 99 by seven", x.enough(0, 1, 0), 99);
        PotBook y = with(1, "a1-99");
        y.day(1, false);
        y.bought(0, 0, 99);
        for (int i = 0; i < 99; i++) {
            Due.same("50: DISH " + i, y.enough(0, 0, i), 99 / (i + 1));
        }
        Due.same("50: no DISH", y.enough(0, 0, 99), NONE);
    }

    /** WASTED by a MENU: how much is over of all THINGS of its PAGES. */
    private static void wastedAndLean() {
        PotBook x = with(3, "a2,b1", "b3");
        x.day(1, false);
        x.bought(0, 0, 4);
        x.bought(0, 1, 5);
        x.bought(0, 2, 700);
        // messes 0 0: 9; 0 1: 6; 1 0: 6; 1 1: 3; 2 0: 3; 2 1: 0
        int[] due = {9, 6, 6, 3, 3, 0};
        for (int i = 0; i < 6; i++) {
            Due.same("51: MENU " + i, x.wasted(0, 3, 9, i), due[i]);
        }
        Due.same("51: no more", x.wasted(0, 3, 9, 6), NONE);
        Due.same("52: how many", x.lean(0, 3, 9, 0), 1);
        Due.same("52: the lowest", x.lean(0, 3, 9, 1), 5);
        Due.same("52: how much", x.lean(0, 3, 9, 2), 0);
        Due.same("51: with less OVER", x.wasted(0, 3, 2, 0), 3);
        Due.same("52: with less OVER", x.lean(0, 3, 2, 1), 1);
    }

    /** LEAN: MENUS with the least WASTED: how many, the lowest, how much. */
    private static void leanOfSeveral() {
        PotBook x = with(1, "a1", "a2", "a3");
        x.day(1, false);
        x.bought(0, 0, 6);
        // a + 2b + 3c: seven of them use all; 0 0 2 is the first, number 2 with all OVER
        Due.same("52: how many", x.lean(0, 7, 6, 0), 7);
        Due.same("52: the lowest", x.lean(0, 7, 6, 1), 2);
        Due.same("52: how much", x.lean(0, 7, 6, 2), 0);
        Due.same("32: as many without OVER", x.menu(0, 7, 0, 0), 7);
        Due.same("52: all", x.lean(0, 7, 0, 0), 7);
        Due.same("52: the first", x.lean(0, 7, 0, 1), 0);
        x.bought(0, 0, 99);
        Due.same("52: nine of each use 54", x.lean(0, 7, 99, 2), 45);
        Due.same("52: the last alone", x.lean(0, 7, 99, 1), 999);
        Due.same("52: one", x.lean(0, 7, 99, 0), 1);
    }
}
