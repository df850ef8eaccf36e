import java.util.NoSuchElementException;

/** Promises 9 to 18: PAGES, HOLDS, DISHES and what they tell. */
public final class PagesTest {
    private static final int HIDDEN = -10000000;

    public static void main(String[] args) {
        ofPages();
        most();
        dishesInOrder();
        dishesTooMany();
        holds();
        holdsTogether();
        spans();
        worths();
        worthCut();
        conditions();
        ranges();
        weighing();
        Due.close("PagesTest");
    }

    private static void throwsFor(PotBook x, int page, int what) {
        boolean thrown = false;
        try {
            x.page(page, what);
        } catch (NoSuchElementException e) {
            thrown = true;
        }
        Due.is("9: page(" + page + ", " + what + ") throws", thrown, true);
    }

    /** a wet 50, b sweet 40, c firm 20 and FLESH, d of all a little. */
    private static PotBook four() {
        PotBook x = new PotBook();
        x.thing(50, 0, 1, false, 1, 12);
        x.thing(0, 40, 2, false, 6, 9);
        x.thing(5, 0, 20, true, 11, 2);
        x.thing(1, 2, 3, false, 1, 12);
        return x;
    }

    private static void ofPages() {
        PotBook x = four();
        throwsFor(x, 0, 0);
        Due.tell(x, "d,b3,a1-2;B3RT9", 0);
        Due.tell(x, "c", 0);
        Due.same("9: THINGS", x.page(0, 0), 11);
        Due.same("9: ACTS", x.page(0, 1), 13);
        Due.same("9: LEFT OUT", x.page(0, 2), 8);
        Due.same("9: WRITER", x.page(0, 3), 0);
        x.wrote(0, 5);
        Due.same("9: WRITER", x.page(0, 3), 5);
        Due.same("9: no ACTS", x.page(1, 1), 0);
        Due.same("9: THINGS", x.page(1, 0), 4);
        Due.same("9: LEFT OUT", x.page(1, 2), 4);
        throwsFor(x, 2, 0);
        throwsFor(x, -1, 0);
        throwsFor(x, 0, 4);
        throwsFor(x, 0, -1);
        throwsFor(x, Integer.MAX_VALUE, Integer.MIN_VALUE);
        Due.tell(x, "a;B9R9T9S9B9R9T9S9", 0);
        Due.same("9: the most ACTS", x.page(2, 1), 72);
    }

    private static void most() {
        PotBook x = four();
        Due.tell(x, "a,b2", 0);
        Due.same("10: six at first", x.dishes(0), 6);
        Due.is("10: too low", x.most(0), false);
        Due.is("10: too high", x.most(21), false);
        Due.same("10: refused changes nothing", x.count(8), 6);
        Due.is("10: the greatest", x.most(20), true);
        Due.same("10: twenty", x.dishes(0), 20);
        Due.same("10: twenty", x.count(8), 20);
        Due.is("10: the least", x.most(1), true);
        Due.same("10: one", x.dishes(0), 1);
        Due.same("10: one", x.dish(0, 0, 0), 1);
        Due.same("10: what is told stays", x.dish(0, 0, 1), 2);
    }

    private static void dishesInOrder() {
        PotBook x = four();
        x.most(2);
        Due.tell(x, "c3-5,a,b7", 0);
        Due.same("12: how many", x.dishes(0), 6);
        Due.same("12: no such PAGE", x.dishes(1), -1);
        Due.same("12: no such PAGE", x.dishes(-1), -1);
        int[][] due = {{3, 1}, {3, 2}, {4, 1}, {4, 2}, {5, 1}, {5, 2}};
        for (int i = 0; i < 6; i++) {
            Due.same("13: the first THING of DISH " + i, x.dish(0, i, 2), due[i][0]);
            Due.same("13: the second of DISH " + i, x.dish(0, i, 0), due[i][1]);
            Due.same("13: the third of DISH " + i, x.dish(0, i, 1), 7);
            Due.same("13: not on the PAGE", x.dish(0, i, 3), 0);
        }
        Due.same("13: no such DISH", x.dish(0, 6, 0), -1);
        Due.same("13: no such DISH", x.dish(0, -1, 0), -1);
        Due.same("13: no such PAGE", x.dish(1, 0, 0), -1);
        Due.same("13: no such THING", x.dish(0, 0, 4), -1);
        Due.same("13: no such THING", x.dish(0, 0, -1), -1);
    }

    private static void dishesTooMany() {
        PotBook x = four();
        Due.tell(x, "a1-50,b1-50,c1-2", 0);
        Due.tell(x, "a1-51,b1-49,c1-2,d", 0);
        Due.tell(x, "a1-50,b1-99,c1-99,d1-99", 0);
        Due.tell(x, "y:n", 1);
        x.most(1);
        Due.same("12: 5,000", x.dishes(0), 5000);
        Due.same("12: 4,998", x.dishes(1), 4998);
        Due.same("13: the last", x.dish(0, 4999, 1), 50);
        x.most(2);
        Due.same("12: not told", x.dishes(1), -1);
        Due.same("12: not told", x.dishes(2), -1);
        x.hold(1, 0, 4, 4);
        Due.same("12: HOLDS make it no fewer", x.dishes(1), -1);
        Due.same("13: not told", x.dish(1, 0, 0), -1);
        Due.same("14: not told", x.span(1, 0, 0), -1);
        Due.same("15: not told", x.shared(1), -1);
        Due.same("16: not told", x.worth(1, 0, 0), HIDDEN);
        Due.same("17: not told", x.range(1, 0, 0), HIDDEN);
        Due.same("18: not told", x.weigh(1), -1);
        Due.tell(x, "d1-2,a1-2,b1-50,c1-50", 0);
        Due.same("12: 5,000 without the first", x.dishes(3), -1);
        Due.tell(x, "d7,a1-2,b1-50,c1-50", 0);
        Due.same("12: 5,000 with the first", x.dishes(4), 5000);
        Due.same("13: the first", x.dish(4, 2500, 3), 7);
        x.most(1);
        Due.same("12: told again", x.dishes(1), 1);
        Due.same("12: others as ever", x.dishes(0), 5000);
    }

    private static void holds() {
        PotBook x = four();
        Due.same("11: no PAGE", x.hold(0, 0, 1, 2), -1);
        Due.tell(x, "a,b", 0);
        Due.same("11: no LAW", x.hold(0, 0, 1, 2), -1);
        Due.tell(x, "y:n", 1);
        Due.same("11: no such PAGE", x.hold(1, 0, 1, 2), -1);
        Due.same("11: no such LAW", x.hold(0, 1, 1, 2), -1);
        Due.same("11: no such ones", x.hold(-1, -1, 1, 2), -1);
        Due.same("11: to below from", x.hold(0, 0, 2, 1), -1);
        Due.same("11: too low", x.hold(0, 0, -1000001, 2), -1);
        Due.same("11: too high", x.hold(0, 0, 1, 1000001), -1);
        Due.same("11: far too high", x.hold(0, 0, 1, Integer.MAX_VALUE), -1);
        Due.same("12: none so far", x.dishes(0), 36);
        Due.same("11: the bounds", x.hold(0, 0, -1000000, 1000000), 1);
        Due.same("12: all", x.dishes(0), 36);
        for (int k = 2; k <= 20; k++) {
            Due.same("11: more", x.hold(0, 0, 4, 5), k);
        }
        Due.same("11: there are 20", x.hold(0, 0, 4, 4), -1);
        Due.same("11: count", x.count(3), 20);
        Due.same("12: n is 4 or 5", x.dishes(0), 7);
    }

    private static void holdsTogether() {
        PotBook x = four();
        Due.tell(x, "a,b", 0);
        Due.tell(x, "b,a", 0);
        Due.tell(x, "y:n", 1);
        Due.tell(x, "y:w-s", 1);
        Due.same("11: by n", x.hold(0, 0, 6, 9), 1);
        Due.same("12: 6 to 9", x.dishes(0), 20);
        Due.same("11: by n again", x.hold(0, 0, 3, 7), 2);
        Due.same("12: 6 and 7", x.dishes(0), 11);
        Due.same("11: by another LAW", x.hold(0, 1, 10, 120), 3);
        Due.same("12: 3+3, 4+2, 4+3", x.dishes(0), 3);
        Due.same("13: the first", x.dish(0, 0, 0), 3);
        Due.same("13: the second", x.dish(0, 1, 1), 2);
        Due.same("13: the third", x.dish(0, 2, 1), 3);
        Due.same("12: the other PAGE is not held", x.dishes(1), 36);
        Due.same("11: what no DISH keeps", x.hold(0, 0, 9, 9), 4);
        Due.same("12: none", x.dishes(0), 0);
        Due.same("14: no DISHES", x.span(0, 0, 0), -1);
        Due.same("15: no DISHES", x.shared(0), -1);
        Due.same("17: no DISHES", x.range(0, 0, 1), HIDDEN);
        Due.same("18: no DISHES", x.weigh(0), -1);
    }

    private static void spans() {
        PotBook x = four();
        Due.tell(x, "b2,a,c3-9", 0);
        Due.tell(x, "y:n", 1);
        Due.same("14: the least", x.span(0, 0, 0), 1);
        Due.same("14: the greatest", x.span(0, 0, 1), 6);
        Due.same("14: told", x.span(0, 2, 0), 3);
        Due.same("14: told", x.span(0, 2, 1), 9);
        Due.same("15: told by one number", x.shared(0), 2);
        x.hold(0, 0, 15, 99);
        Due.same("14: held", x.span(0, 0, 0), 4);
        Due.same("14: held", x.span(0, 2, 0), 7);
        Due.same("14: held", x.span(0, 2, 1), 9);
        x.hold(0, 0, 17, 99);
        Due.same("15: all", x.shared(0), 7);
        Due.tell(x, "b4-5", 0);
        Due.same("14: the first of two", x.span(1, 1, 0), 4);
        Due.same("14: the second of two", x.span(1, 1, 1), 5);
        Due.tell(x, "b4", 0);
        Due.same("14: one DISH", x.span(2, 1, 0), 4);
        Due.same("15: one DISH", x.shared(2), 2);
        Due.same("14: not on the PAGE", x.span(0, 3, 0), -1);
        Due.same("14: no such THING", x.span(0, 4, 0), -1);
        Due.same("14: no such THING", x.span(0, -1, 0), -1);
        Due.same("14: no such side", x.span(0, 0, 2), -1);
        Due.same("14: no such side", x.span(0, 0, -1), -1);
        Due.same("14: no such PAGE", x.span(3, 0, 0), -1);
        Due.same("15: no such PAGE", x.shared(3), -1);
        Due.same("15: no such PAGE", x.shared(-1), -1);
    }

    private static void worth(PotBook x, String law, int due) {
        PotBook y = four();
        Due.tell(y, "b2,a3,c4;B3RT9S2RB", 0);
        Due.same("16: " + law, Due.tell(y, law, 1), 0);
        Due.same("16: " + law, y.worth(0, 0, 0), due);
    }

    private static void worths() {
        PotBook x = four();
        Due.tell(x, "b2,a3,c4;B3RT9S2RB", 0);
        Due.tell(x, "y:n", 1);
        Due.same("16: n", x.worth(0, 0, 0), 9);
        Due.same("16: no such DISH", x.worth(0, 1, 0), HIDDEN);
        Due.same("16: no such DISH", x.worth(0, -1, 0), HIDDEN);
        Due.same("16: no such PAGE", x.worth(1, 0, 0), HIDDEN);
        Due.same("16: no such LAW", x.worth(0, 0, 1), HIDDEN);
        Due.same("16: no such LAW", x.worth(0, 0, -1), HIDDEN);
        worth(x, "y:w", 170);
        worth(x, "y:s", 80);
        worth(x, "y:f", 87);
        worth(x, "y:b", 4);
        worth(x, "y:r", 2);
        worth(x, "y:t", 9);
        worth(x, "y:u", 2);
        worth(x, "y:k", 1);
        worth(x, "y:20-5-3", 12);
        worth(x, "y:20-[5-3]", 18);
        worth(x, "y:2+3*4", 14);
        worth(x, "y:[2+3]*4", 20);
        worth(x, "y:7/2*2", 6);
        worth(x, "y:7*2/4", 3);
        worth(x, "y:[0-7]/2", -3);
        worth(x, "y:7/[0-2]", -3);
        worth(x, "y:7/[2-2]+5", 5);
        worth(x, "y:[[[[[[1+2]*2+1]*2+1]*2+1]*2+1]*2+1]", 127);
        worth(x, "y:0012+1", 13);
        Due.tell(x, "b2;B", 0);
        Due.tell(x, "y:k", 1);
        Due.same("16: no FLESH", x.worth(1, 0, 1), 0);
    }

    private static void worthCut() {
        PotBook x = four();
        worth(x, "y:9999*9999", 1000000);
        worth(x, "y:9999*9999-1", 999999);
        worth(x, "y:1000*1000", 1000000);
        worth(x, "y:1000*1000+1-1", 999999);
        worth(x, "y:[0-9999]*9999", -1000000);
        worth(x, "y:[0-9999]*9999-1+1", -999999);
        worth(x, "y:9999*9999*9999/1000", 1000);
        worth(x, "y:9999*9999/[0-1]", -1000000);
    }

    private static void conditions() {
        PotBook x = four();
        worth(x, "y:n=9?1;y:2", 1);
        worth(x, "y:n=8?1;y:2", 2);
        worth(x, "y:n=8?1", 0);
        worth(x, "y:n<9?1;y:n<10?2;y:3", 2);
        worth(x, "y:n>9?1;y:n>8?2;y:3", 2);
        worth(x, "y:!n=9?1;y:2", 2);
        worth(x, "y:!!n=9?1;y:2", 1);
        worth(x, "y:n=9&n=8?1;y:2", 2);
        worth(x, "y:n=9|n=8?1;y:2", 1);
        worth(x, "y:n=9|n=8&n=7?1;y:2", 1);
        worth(x, "y:(n=9|n=8)&n=7?1;y:2", 2);
        worth(x, "y:n=7&n=8|n=9?1;y:2", 1);
        worth(x, "y:!(n=7&n=8)?1;y:2", 1);
        worth(x, "y:!n=7&n=8?1;y:2", 2);
        worth(x, "y:!n=7|n=9?1;y:2", 1);
        worth(x, "y:1+2=3?n+1;y:2", 10);
        worth(x, "y:[n]<[n+1]?5;y:2", 5);
        worth(x, "y:5;y:6", 5);
        worth(x, "y:n<10&n=9?1;y:2", 1);
        worth(x, "y:n>8&n=9&n<10?1;y:2", 1);
        worth(x, "y:!n<8&!n>9?1;y:2", 1);
    }

    private static void ranges() {
        PotBook x = four();
        Due.tell(x, "a,b", 0);
        Due.tell(x, "y:w-s", 1);
        Due.tell(x, "y:3", 1);
        Due.same("17: the least", x.range(0, 0, 0), -190);
        Due.same("17: the greatest", x.range(0, 0, 1), 260);
        Due.same("17: alike", x.range(0, 1, 0), 3);
        Due.same("17: alike", x.range(0, 1, 1), 3);
        x.hold(0, 0, -100, 5);
        Due.same("17: held", x.range(0, 0, 0), -100);
        Due.same("17: held", x.range(0, 0, 1), 0);
        Due.same("17: no such side", x.range(0, 0, 2), HIDDEN);
        Due.same("17: no such side", x.range(0, 0, -1), HIDDEN);
        Due.same("17: no such LAW", x.range(0, 2, 0), HIDDEN);
        Due.same("17: no such PAGE", x.range(1, 0, 0), HIDDEN);
        Due.tell(x, "b4-5", 0);
        Due.same("17: the second of two", x.range(1, 0, 0), -200);
        Due.same("17: the first of two", x.range(1, 0, 1), -160);
        Due.tell(x, "b4", 0);
        Due.same("17: one DISH", x.range(2, 0, 0), -160);
        Due.same("17: one DISH", x.range(2, 0, 1), -160);
    }

    private static void weighing() {
        PotBook x = four();
        Due.tell(x, "b1-3,a1-4,c2", 0);
        Due.tell(x, "b1-3,a1-3", 0);
        Due.tell(x, "c2", 0);
        Due.tell(x, "a,b", 0);
        Due.tell(x, "y:w/50*[w/50]", 1);
        Due.tell(x, "y:s/40-w/50", 1);
        Due.same("18: four kinds", x.weigh(0), 0);
        Due.same("18: of several the first on the PAGE", x.weigh(1), 1);
        Due.same("18: one alone", x.weigh(2), 2);
        Due.same("18: no such PAGE", x.weigh(5), -1);
        Due.same("18: no such PAGE", x.weigh(-1), -1);
        Due.same("18: all alike", x.weigh(3), 0);
        x.hold(3, 1, 4, 9);
        Due.same("18: a 1 b 5 6, a 2 b 6: b most 2, a most 2", x.weigh(3), 0);
        x.most(7);
        x.hold(3, 0, 1, 4);
        x.hold(3, 1, 5, 9);
        Due.same("18: a 1 b 6 7, a 2 b 7", x.weigh(3), 0);
        x.hold(3, 0, 1, 1);
        Due.same("18: a 1 alone, b 6 7", x.weigh(3), 1);
        Due.tell(x, "a98-99,b97-99", 0);
        Due.same("18: to 99", x.weigh(4), 1);
    }
}
