/** Promises 29 to 33, and 49 to 52: DAYS, MENUS, what is lacking and what is wasted. */
public final class DaysTest {
    public static void main(String[] args) {
        days();
        buying();
        serving();
        menus();
        menusAfterOthers();
        menusRefused();
        menusInOrder();
        menusWithout();
        manyMenus();
        lacking();
        wasted();
        Due.close("DaysTest");
    }

    /** a the whole year, b from June to September, c FLESH from November to February. */
    private static PotBook three() {
        PotBook x = new PotBook();
        x.thing(1, 1, 1, false, 1, 12);
        x.thing(1, 1, 1, false, 6, 9);
        x.thing(1, 1, 1, true, 11, 2);
        return x;
    }

    private static void days() {
        PotBook x = new PotBook();
        Due.same("29: no such month", x.day(0, true), -1);
        Due.same("29: no such month", x.day(13, true), -1);
        for (int k = 0; k < 10; k++) {
            Due.same("29: a DAY", x.day(k + 3, k % 2 == 0), k);
        }
        Due.same("29: there are ten", x.day(5, false), -1);
        Due.same("29: count", x.count(6), 10);
    }

    private static void buying() {
        PotBook x = three();
        Due.is("30: no such DAY", x.bought(0, 0, 5), false);
        x.day(1, false);
        Due.is("30: no such THING", x.bought(0, 3, 5), false);
        Due.is("30: no such THING", x.bought(0, -1, 5), false);
        Due.is("30: no such DAY", x.bought(1, 0, 5), false);
        Due.is("30: no such DAY", x.bought(-1, 0, 5), false);
        Due.is("30: too little", x.bought(0, 0, -1), false);
        Due.is("30: too much", x.bought(0, 0, 1000), false);
        Due.tell(x, "a3", 0);
        Due.same("30: none at first", x.enough(0, 0, 0), 0);
        Due.is("30: told", x.bought(0, 0, 999), true);
        Due.same("30: told", x.enough(0, 0, 0), 99);
        Due.is("30: told anew", x.bought(0, 0, 6), true);
        Due.same("30: told anew", x.enough(0, 0, 0), 2);
        Due.is("30: none", x.bought(0, 0, 0), true);
        Due.same("30: none", x.enough(0, 0, 0), 0);
    }

    private static void serving() {
        PotBook x = three();
        String[] texts = {"a1", "b1", "c1", "a", "a1,b1", "a1,c1", "b1,c1", "a1-2"};
        for (String text : texts) {
            Due.tell(x, text, 0);
        }
        x.day(6, false);
        x.day(11, true);
        x.day(1, false);
        x.day(9, true);
        x.day(10, false);
        int[][] due = {{1, 1, 0, 0, 1, 0, 0, 0}, {1, 0, 0, 0, 0, 0, 0, 0}, {1, 0, 1, 0, 0, 1, 0, 0},
            {1, 1, 0, 0, 1, 0, 0, 0}, {1, 0, 0, 0, 0, 0, 0, 0}};
        for (int day = 0; day < 5; day++) {
            for (int page = 0; page < 8; page++) {
                Due.same("31: DAY " + day + " PAGE " + page, x.may(day, page), due[day][page]);
            }
        }
        Due.same("31: no such DAY", x.may(5, 0), -1);
        Due.same("31: no such DAY", x.may(-1, 0), -1);
        Due.same("31: no such PAGE", x.may(0, 8), -1);
        Due.same("31: no such PAGE", x.may(0, -1), -1);
        Due.tell(x, "y:n", 1);
        x.hold(3, 0, 4, 4);
        Due.same("31: held to one DISH", x.may(0, 3), 1);
        x.hold(3, 0, 5, 5);
        Due.same("31: held to none", x.may(0, 3), 0);
        x.hold(7, 0, 1, 1);
        Due.same("31: held to one DISH", x.may(0, 7), 1);
        Due.tell(x, "a1-99,b1-99", 0);
        x.hold(8, 0, 2, 2);
        Due.same("31: not told", x.may(0, 8), 0);
        x.most(1);
        Due.same("31: held to none", x.may(0, 3), 0);
    }

    private static void menus() {
        PotBook x = three();
        Due.tell(x, "a2", 0);
        Due.tell(x, "a1,b3", 0);
        Due.tell(x, "b1", 0);
        x.day(7, false);
        x.bought(0, 0, 6);
        x.bought(0, 1, 9);
        x.bought(0, 2, 500);
        // 2m + n = 6, 3n + k = 9: (3 0 9), (2 2 3); n = 4 and n = 6 need too much of b
        Due.same("32: how many", x.menu(0, 7, 0, 0), 2);
        Due.same("32: in all", x.menu(0, 7, 0, 1), 5);
        Due.same("32: in some", x.menu(0, 7, 0, 2), 7);
        Due.same("32: the fewest", x.menu(0, 7, 0, 3), 7);
        Due.same("32: the most", x.menu(0, 7, 0, 4), 12);
        int[][] due = {{2, 2, 3}, {3, 0, 9}};
        for (int i = 0; i < 2; i++) {
            for (int page = 0; page < 3; page++) {
                Due.same("33: MENU " + i + " PAGE " + page, x.messes(0, 7, 0, i, page), due[i][page]);
            }
        }
        Due.same("33: no such MENU", x.messes(0, 7, 0, 2, 0), -1);
        Due.same("33: no such MENU", x.messes(0, 7, 0, -1, 0), -1);
        Due.same("33: no such PAGE", x.messes(0, 7, 0, 0, 3), -1);
        Due.same("33: no such PAGE", x.messes(0, 7, 0, 0, -1), -1);
        Due.same("33: not of these", x.messes(0, 5, 6, 0, 1), -1);
        Due.same("32: OVER", x.menu(0, 1, 1, 0), 1);
        Due.same("32: OVER", x.menu(0, 1, 2, 0), 2);
        Due.same("32: OVER", x.menu(0, 1, 6, 0), 4);
        Due.same("32: none in all", x.menu(0, 1, 6, 1), 0);
        Due.same("32: none together", x.menu(0, 1, 6, 3), 0);
        x.bought(0, 0, 30);
        Due.same("32: nine at most", x.menu(0, 1, 11, 0), 0);
        Due.same("32: nine at most", x.menu(0, 1, 12, 0), 1);
        Due.same("33: nine", x.messes(0, 1, 12, 0, 0), 9);
    }

    private static void menusAfterOthers() {
        PotBook x = three();
        Due.tell(x, "a2,b3", 0);
        Due.tell(x, "b1", 0);
        Due.tell(x, "a1,b1", 0);
        x.day(7, false);
        x.bought(0, 1, 1);
        Due.same("32: a PAGE before", x.menu(0, 1, 9, 0), 1);
        Due.same("32: another at its place", x.menu(0, 2, 0, 0), 1);
        Due.same("32: one mess", x.menu(0, 2, 0, 1), 2);
        Due.same("32: one mess", x.menu(0, 2, 0, 2), 2);
        Due.same("32: one mess", x.menu(0, 2, 0, 3), 1);
        Due.same("52: one MENU", x.lean(0, 2, 0, 0), 1);
        Due.same("52: one MENU", x.lean(0, 2, 0, 1), 0);
        Due.same("52: one MENU", x.lean(0, 2, 0, 2), 0);
        x.bought(0, 0, 5);
        // (0 0): 5 + 1; (0 1): 4 + 0; (1 0): 5 + 0
        Due.same("52: PAGES 1 and 2", x.menu(0, 6, 5, 0), 3);
        Due.same("52: the second", x.lean(0, 6, 5, 1), 1);
        Due.same("52: so much", x.lean(0, 6, 5, 2), 4);
        Due.same("52: the first of two alike", x.lean(0, 3, 5, 1), 1);
        x.bought(0, 2, 7);
        Due.same("51: c is not of these", x.wasted(0, 6, 5, 0), 6);
    }

    private static void menusRefused() {
        PotBook x = three();
        for (int k = 0; k < 6; k++) {
            Due.tell(x, "a1", 0);
        }
        Due.same("32: no such DAY", x.menu(0, 1, 0, 0), -1);
        x.day(7, false);
        int[][] wrong = {{0, 0, 0, 0}, {0, 64, 0, 0}, {0, 65, 0, 0}, {0, 63, 0, 0}, {0, -1, 0, 0}, {0, Integer.MIN_VALUE, 0, 0},
            {0, 1, -1, 0}, {0, 1, 100, 0}, {1, 1, 0, 0}, {-1, 1, 0, 0}};
        for (int[] w : wrong) {
            Due.same("32: refused", x.menu(w[0], w[1], w[2], w[3]), -1);
            Due.same("33: refused", x.messes(w[0], w[1], w[2], 0, 0), -1);
            Due.same("51: refused", x.wasted(w[0], w[1], w[2], 0), -1);
            Due.same("52: refused", x.lean(w[0], w[1], w[2], 0), -1);
        }
        Due.same("32: no such number", x.menu(0, 1, 0, 5), -1);
        Due.same("32: no such number", x.menu(0, 1, 0, -1), -1);
        Due.same("52: no such number", x.lean(0, 1, 0, 3), -1);
        Due.same("52: no such number", x.lean(0, 1, 0, -1), -1);
        Due.same("32: five", x.menu(0, 62, 99, 0), 1);
    }

    private static void menusInOrder() {
        PotBook x = three();
        for (int k = 0; k < 3; k++) {
            Due.tell(x, "a1", 0);
        }
        x.day(1, true);
        x.bought(0, 0, 3);
        int[][] due = {{0, 3}, {1, 2}, {2, 1}, {3, 0}};
        for (int i = 0; i < 4; i++) {
            Due.same("33: the lowest PAGE first", x.messes(0, 5, 0, i, 0), due[i][0]);
            Due.same("33: then the next", x.messes(0, 5, 0, i, 2), due[i][1]);
        }
        Due.same("32: three PAGES", x.menu(0, 7, 0, 0), 10);
        Due.same("33: the third is the quickest", x.messes(0, 7, 0, 1, 2), 2);
    }

    private static void menusWithout() {
        PotBook x = three();
        Due.tell(x, "a1,c1", 0);
        Due.tell(x, "a1", 0);
        Due.tell(x, "b", 0);
        x.day(12, true);
        x.bought(0, 0, 4);
        Due.same("32: 0 of those that may not", x.menu(0, 3, 0, 0), 1);
        Due.same("33: 0 of those that may not", x.messes(0, 3, 0, 0, 0), 0);
        Due.same("33: the other", x.messes(0, 3, 0, 0, 1), 4);
        x.bought(0, 2, 5);
        Due.same("32: c is over", x.menu(0, 3, 4, 0), 0);
        for (int what = 0; what < 5; what++) {
            Due.same("32: without any, " + what, x.menu(0, 3, 4, what), what < 3 ? 0 : -1);
        }
        for (int what = 0; what < 3; what++) {
            Due.same("52: without any, " + what, x.lean(0, 3, 4, what), -1);
        }
        Due.same("51: without any", x.wasted(0, 3, 4, 0), -1);
        Due.same("33: without any", x.messes(0, 3, 4, 0, 0), -1);
        Due.same("32: c may be over", x.menu(0, 3, 5, 0), 5);
        Due.same("32: nothing of b is there", x.menu(0, 4, 0, 0), 1);
    }

    private static void manyMenus() {
        PotBook x = new PotBook();
        for (int k = 0; k < 5; k++) {
            x.thing(1, 1, 1, false, 1, 12);
            Due.tell(x, (char) ('a' + k) + "1", 0);
        }
        x.day(1, false);
        for (int k = 0; k < 5; k++) {
            x.bought(0, k, 9);
        }
        Due.same("32: all there can be", x.menu(0, 31, 9, 0), 100000);
        Due.same("32: the most", x.menu(0, 31, 9, 4), 45);
        Due.same("33: by its number", x.messes(0, 31, 9, 90817, 0), 9);
        Due.same("33: by its number", x.messes(0, 31, 9, 90817, 2), 8);
        Due.same("33: by its number", x.messes(0, 31, 9, 90817, 4), 7);
        Due.same("51: by its number", x.wasted(0, 31, 9, 90817), 0 + 9 + 1 + 8 + 2);
        Due.same("52: the last alone", x.lean(0, 31, 9, 1), 99999);
        Due.same("52: the last alone", x.lean(0, 31, 9, 0), 1);
    }

    private static void lacking() {
        PotBook x = three();
        Due.tell(x, "a2,c1", 0);
        x.day(7, true);
        x.bought(0, 0, 14);
        x.bought(0, 1, 1);
        x.bought(0, 2, 5);
        Due.same("49: none", x.lacking(0, 0, 0, 5), 0);
        Due.same("49: c", x.lacking(0, 0, 0, 6), 4);
        Due.same("49: c", x.lacking(0, 0, 0, 7), 4);
        Due.same("49: a and c", x.lacking(0, 0, 0, 8), 5);
        Due.same("49: 99 messes", x.lacking(0, 0, 0, 99), 5);
        Due.same("50: five", x.enough(0, 0, 0), 5);
        Due.same("49: too few messes", x.lacking(0, 0, 0, 0), -1);
        Due.same("49: too many messes", x.lacking(0, 0, 0, 100), -1);
        Due.same("49: no such DISH", x.lacking(0, 0, 1, 1), -1);
        Due.same("49: no such DISH", x.lacking(0, 0, -1, 1), -1);
        Due.same("49: no such PAGE", x.lacking(0, 1, 0, 1), -1);
        Due.same("49: no such DAY", x.lacking(1, 0, 0, 1), -1);
        Due.same("50: no such DISH", x.enough(0, 0, 1), -1);
        Due.same("50: no such PAGE", x.enough(0, 1, 0), -1);
        Due.same("50: no such DAY", x.enough(1, 0, 0), -1);
        Due.same("50: no such DAY", x.enough(-1, 0, 0), -1);
        x.bought(0, 2, 999);
        x.bought(0, 0, 197);
        Due.same("50: 98", x.enough(0, 0, 0), 98);
        x.bought(0, 0, 300);
        Due.same("50: to 99", x.enough(0, 0, 0), 99);
        Due.tell(x, "b", 0);
        Due.same("49: another DISH", x.lacking(0, 1, 0, 1), 0);
        Due.same("49: another DISH", x.lacking(0, 1, 1, 1), 2);
        Due.same("50: another DISH", x.enough(0, 1, 1), 0);
    }

    private static void wasted() {
        PotBook x = three();
        Due.tell(x, "a2,b1", 0);
        Due.tell(x, "a3", 0);
        Due.tell(x, "c1", 0);
        x.day(8, false);
        x.bought(0, 0, 7);
        x.bought(0, 1, 2);
        x.bought(0, 2, 1);
        // (0 1): 4 + 2; (0 2): 1 + 2; (1 0): 5 + 1; (1 1): 2 + 1; (2 0): 3 + 0; (2 1): 0; (0 0) has 7 of a over
        int[] due = {6, 3, 6, 3, 3, 0};
        for (int i = 0; i < 6; i++) {
            Due.same("51: MENU " + i, x.wasted(0, 3, 5, i), due[i]);
        }
        Due.same("51: no such MENU", x.wasted(0, 3, 5, 6), -1);
        Due.same("51: no such MENU", x.wasted(0, 3, 5, -1), -1);
        Due.same("52: one", x.lean(0, 3, 5, 0), 1);
        Due.same("52: the last", x.lean(0, 3, 5, 1), 5);
        Due.same("52: none", x.lean(0, 3, 5, 2), 0);
        Due.same("51: a PAGE that may not", x.wasted(0, 7, 5, 0), 7);
        Due.same("52: a PAGE that may not", x.lean(0, 7, 5, 2), 1);
        x.bought(0, 0, 6);
        // (0 0): 6 + 2; (0 1): 3 + 2; (0 2): 0 + 2; (1 0): 4 + 1; (1 1): 1 + 1; (2 0): 2
        Due.same("52: three alike", x.lean(0, 3, 6, 0), 3);
        Due.same("52: the lowest", x.lean(0, 3, 6, 1), 2);
        Due.same("52: so much", x.lean(0, 3, 6, 2), 2);
    }
}
