/** Promises 34 to 37, and 44 to 46: MONTHS, FAR, CAME, TREE, CHANGED, LINE, STEM. */
public final class KinTest {
    public static void main(String[] args) {
        months();
        far();
        farActs();
        cameAndLines();
        tree();
        changed();
        Due.close("KinTest");
    }

    private static PotBook with(String... texts) {
        PotBook x = new PotBook();
        x.thing(1, 1, 1, false, 1, 12);
        x.thing(1, 1, 1, false, 6, 9);
        x.thing(1, 1, 1, false, 11, 2);
        x.thing(1, 1, 1, false, 9, 6);
        x.thing(1, 1, 1, false, 4, 4);
        for (String text : texts) {
            Due.same(text, Due.tell(x, text, 0) >= 0 ? 1 : 0, 1);
        }
        return x;
    }

    private static void months() {
        PotBook x = with("a", "b", "c", "d", "b,d", "c,d", "b,c", "a,e", "d,c,a");
        int[] due = {4095, 32 + 64 + 128 + 256, 1024 + 2048 + 1 + 2, 4095 - 64 - 128, 32 + 256, 1024 + 2048 + 1 + 2, 0, 8,
            1024 + 2048 + 1 + 2};
        for (int page = 0; page < due.length; page++) {
            Due.same("34: PAGE " + page, x.months(page), due[page]);
        }
        Due.same("34: no such PAGE", x.months(9), -1);
        Due.same("34: no such PAGE", x.months(-1), -1);
    }

    private static void far() {
        PotBook x = with("a,b;BT", "b3,c;BT", "a1,b2;B2", "c;S9");
        Due.same("35: THINGS", x.far(0, 1), 2);
        Due.same("35: ACTS", x.far(0, 2), 1);
        Due.same("35: both ways", x.far(2, 0), 1);
        Due.same("35: all", x.far(0, 3), 3 + 9);
        Due.same("35: itself", x.far(3, 3), 0);
        Due.same("35: no such PAGE", x.far(0, 4), -1);
        Due.same("35: no such PAGE", x.far(4, 0), -1);
        Due.same("35: no such PAGE", x.far(-1, 0), -1);
    }

    private static void farActs() {
        String[][] pairs = {{"a;BRTS", "a;RTSB", "2"}, {"a;B9R9", "a;B9", "9"}, {"a;BRB", "a;RBR", "2"}, {"a", "a;B3", "3"},
            {"a;B9R9T9S9B9R9T9S9", "a;S9T9R9B9S9T9R9B9", "54"}, {"a;BT2S", "a;TS", "2"}, {"a;BRTS", "a;SRTB", "2"},
            {"a;B2R3", "a;B3R2", "1"}, {"a;B", "a;T", "1"}, {"a;B3", "a", "3"}, {"a;BRTS9", "a;B", "11"}};
        for (String[] pair : pairs) {
            PotBook x = with(pair[0], pair[1]);
            Due.same("35: " + pair[0] + " " + pair[1], x.far(0, 1), Integer.parseInt(pair[2]));
            Due.same("35: the other way", x.far(1, 0), Integer.parseInt(pair[2]));
            Due.same("44: ACTS", x.changed(1, 3), Integer.parseInt(pair[2]));
        }
    }

    private static void cameAndLines() {
        //               0    1      2        3    4        5        6
        PotBook x = with("a", "a,b", "a,b,c", "d", "d,c,e", "a,b;B", "c,e,d");
        int[] came = {-1, 0, 1, 0, 3, 1, 4};
        int[] line = {0, 1, 2, 1, 2, 2, 3};
        for (int page = 0; page < 7; page++) {
            Due.same("36: PAGE " + page, x.came(page), came[page]);
            Due.same("45: PAGE " + page, x.line(page), line[page]);
        }
        int[][] stems = {{2, 5, 1}, {5, 2, 1}, {2, 1, 1}, {1, 2, 1}, {2, 6, 0}, {6, 3, 3}, {4, 6, 4}, {0, 6, 0}, {5, 5, 5}};
        for (int[] s : stems) {
            Due.same("46: " + s[0] + " and " + s[1], x.stem(s[0], s[1]), s[2]);
        }
        Due.same("36: no such PAGE", x.came(7), -1);
        Due.same("36: no such PAGE", x.came(-1), -1);
        Due.same("45: no such PAGE", x.line(7), -1);
        Due.same("45: no such PAGE", x.line(-1), -1);
        Due.same("46: no such PAGE", x.stem(0, 7), -1);
        Due.same("46: no such PAGE", x.stem(-1, 0), -1);
        PotBook y = with("a;B", "b;B", "a,b;B");
        Due.same("36: of several the lowest", y.came(2), 0);
    }

    private static void tree() {
        PotBook x = new PotBook();
        Due.same("37: none", x.tree(), 0);
        x = with("a");
        Due.same("37: one", x.tree(), 0);
        x = with("a", "b,c", "a,b,c", "e;B3");
        // 0 to 2: 2; 1 to 2: 1; 3 to 0: 2 + 3
        Due.same("37: by a PAGE between", x.tree(), 8);
        Due.tell(x, "a;B3", 0);
        // 4 to 0: 3; 4 to 3: 2
        Due.same("37: by another one", x.tree(), 8);
        Due.tell(x, "e;B2", 0);
        Due.same("37: one more", x.tree(), 9);
    }

    private static void changed() {
        PotBook x = with("a2,b,c3-5,d;BT", "a2-2,b1-6,c3-6,e;BST");
        Due.same("44: new", x.changed(1, 0), 16);
        Due.same("44: gone", x.changed(1, 1), 8);
        Due.same("44: told otherwise", x.changed(1, 2), 2 + 4);
        Due.same("44: ACTS", x.changed(1, 3), 1);
        Due.same("44: it CAME from none", x.changed(0, 0), -1);
        Due.same("44: no such PAGE", x.changed(2, 0), -1);
        Due.same("44: no such PAGE", x.changed(-1, 0), -1);
        Due.same("44: no such number", x.changed(1, 4), -1);
        Due.same("44: no such number", x.changed(1, -1), -1);
        PotBook y = with("a,b", "c1", "b,a", "c2", "a1,b2");
        Due.same("44: nothing", y.changed(2, 2), 0);
        Due.same("44: the least told otherwise", y.changed(3, 2), 4);
        Due.same("44: LEFT OUT then told", y.changed(4, 2), 3);
        y.most(1);
        Due.same("44: LEFT OUT, though it can be 1 alone", y.changed(4, 2), 3);
    }
}
