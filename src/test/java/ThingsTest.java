/** Promises 6 to 8: THINGS and their SIZES. */
public final class ThingsTest {
    public static void main(String[] args) {
        things();
        sizes();
        sizesInYears();
        Due.close("ThingsTest");
    }

    private static void things() {
        PotBook x = new PotBook();
        int[][] wrong = {{-1, 0, 0, 1, 1}, {100, 0, 0, 1, 1}, {0, -1, 0, 1, 1}, {0, 100, 0, 1, 1}, {0, 0, -1, 1, 1},
            {0, 0, 100, 1, 1}, {0, 0, 0, 0, 1}, {0, 0, 0, 13, 1}, {0, 0, 0, 1, 0}, {0, 0, 0, 1, 13},
            {Integer.MIN_VALUE, 0, 0, 1, 1}, {0, 0, 0, 1, Integer.MAX_VALUE}};
        for (int[] w : wrong) {
            Due.same("6: out of bounds", x.thing(w[0], w[1], w[2], true, w[3], w[4]), -1);
        }
        Due.same("6: none told", x.count(2), 0);
        Due.same("6: the least", x.thing(0, 0, 0, false, 1, 1), 0);
        Due.same("6: the greatest", x.thing(99, 99, 99, true, 12, 12), 1);
        Due.same("6: round the year's end", x.thing(5, 5, 5, true, 12, 1), 2);
        for (int k = 3; k < 12; k++) {
            Due.same("6: more", x.thing(1, 2, 3, false, 1, 12), k);
        }
        Due.same("6: a thirteenth", x.thing(1, 2, 3, false, 1, 12), -1);
        Due.same("6: twelve", x.count(2), 12);
    }

    private static void sizes() {
        PotBook x = new PotBook();
        Due.same("7: no such THING", x.sized(0, 1400, 5), -1);
        x.thing(1, 1, 1, false, 1, 12);
        x.thing(1, 1, 1, false, 1, 12);
        Due.same("7: no such THING", x.sized(2, 1400, 5), -1);
        Due.same("7: no such THING", x.sized(-1, 1400, 5), -1);
        Due.same("7: too early", x.sized(0, 1199, 5), -1);
        Due.same("7: too late", x.sized(0, 2000, 5), -1);
        Due.same("7: too small", x.sized(0, 1200, 0), -1);
        Due.same("7: too big", x.sized(0, 1200, 1000), -1);
        Due.same("7: the first", x.sized(0, 1200, 1), 1);
        Due.same("7: not later", x.sized(0, 1200, 7), -1);
        Due.same("7: a second", x.sized(0, 1201, 999), 2);
        Due.same("7: not later", x.sized(0, 1200, 7), -1);
        Due.same("7: of another one", x.sized(1, 1200, 7), 1);
        for (int k = 3; k <= 6; k++) {
            Due.same("7: more", x.sized(0, 1300 + k, 5), k);
        }
        Due.same("7: a seventh", x.sized(0, 1999, 5), -1);
        Due.same("7: a seventh changes nothing", x.size(0, 1999), 5);
        Due.same("7: the last year", x.sized(1, 1999, 5), 2);
    }

    private static void sizesInYears() {
        PotBook x = new PotBook();
        Due.same("8: no such THING", x.size(0, 1400), -1);
        x.thing(1, 1, 1, false, 1, 12);
        Due.same("8: untold", x.size(0, 1200), 10);
        Due.same("8: untold", x.size(0, 1999), 10);
        Due.same("8: no such year", x.size(0, 1199), -1);
        Due.same("8: no such year", x.size(0, 2000), -1);
        Due.same("8: no such THING", x.size(1, 1400), -1);
        Due.same("8: no such THING", x.size(-1, 1400), -1);
        x.sized(0, 1400, 10);
        Due.same("8: one alone, ahead", x.size(0, 1200), 10);
        x.sized(0, 1403, 20);
        x.sized(0, 1410, 3);
        x.sized(0, 1411, 999);
        int[][] due = {{1200, 10}, {1399, 10}, {1400, 10}, {1401, 13}, {1402, 16}, {1403, 20}, {1404, 18}, {1405, 16},
            {1406, 13}, {1407, 11}, {1408, 8}, {1409, 6}, {1410, 3}, {1411, 999}, {1412, 999}, {1999, 999}};
        for (int[] d : due) {
            Due.same("8: size in " + d[0], x.size(0, d[0]), d[1]);
        }
    }
}
