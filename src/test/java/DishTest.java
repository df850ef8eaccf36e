/** Promises 41 to 43, and 53 to 55: WEIGHT, FOR, BOIL, SOFTER, SWAPPED, count. */
public final class DishTest {
    private static final int HIDDEN = -10000000;

    public static void main(String[] args) {
        weight();
        serves();
        boil();
        boilEdges();
        softer();
        softerMany();
        swapped();
        count();
        Due.close("DishTest");
    }

    private static PotBook three() {
        PotBook x = new PotBook();
        x.thing(50, 1, 1, false, 1, 12);
        x.thing(0, 2, 2, false, 1, 12);
        x.thing(7, 3, 1, false, 1, 12);
        return x;
    }

    private static void weight() {
        PotBook x = three();
        Due.tell(x, "b2-3,a4", 0);
        x.sized(0, 1400, 20);
        x.sized(0, 1500, 41);
        Due.same("41: ahead", x.weight(0, 0, 1200), 4 * 20 + 2 * 10);
        Due.same("41: between", x.weight(0, 0, 1450), 4 * 30 + 2 * 10);
        Due.same("41: the second DISH", x.weight(0, 1, 1999), 4 * 41 + 3 * 10);
        Due.same("41: no such year", x.weight(0, 0, 1199), -1);
        Due.same("41: no such year", x.weight(0, 0, 2000), -1);
        Due.same("41: no such DISH", x.weight(0, 2, 1400), -1);
        Due.same("41: no such DISH", x.weight(0, -1, 1400), -1);
        Due.same("41: no such PAGE", x.weight(1, 0, 1400), -1);
        Due.same("41: no such PAGE", x.weight(-1, 0, 1400), -1);
    }

    private static void serves() {
        PotBook x = three();
        Due.tell(x, "b2-3,a4,c", 0);
        x.sized(2, 1400, 5);
        Due.same("42: the least", x.serves(0, 1400, 10, 0), 6);
        Due.same("42: the greatest", x.serves(0, 1400, 10, 1), 10);
        Due.same("42: the greatest", x.serves(0, 1400, 11, 1), 9);
        Due.same("42: to one", x.serves(0, 1400, 1, 1), 100);
        Due.same("42: none", x.serves(0, 1400, 9999, 1), 0);
        x.most(1);
        Due.tell(x, "b2,c", 0);
        Due.same("42: one DISH", x.serves(1, 1400, 1, 0), 25);
        Due.same("42: one DISH", x.serves(1, 1400, 1, 1), 25);
        x.most(6);
        Due.same("42: no such year", x.serves(0, 1199, 10, 0), -1);
        Due.same("42: no such year", x.serves(0, 2000, 10, 0), -1);
        Due.same("42: of nothing each", x.serves(0, 1400, 0, 0), -1);
        Due.same("42: too much each", x.serves(0, 1400, 10000, 0), -1);
        Due.same("42: no such side", x.serves(0, 1400, 10, 2), -1);
        Due.same("42: no such side", x.serves(0, 1400, 10, -1), -1);
        Due.same("42: no such PAGE", x.serves(2, 1400, 10, 0), -1);
        Due.tell(x, "y:n", 1);
        x.hold(0, 0, 12, 12);
        Due.same("42: held", x.serves(0, 1400, 1, 0), 90);
        Due.same("42: held", x.serves(0, 1400, 1, 1), 95);
        x.hold(0, 0, 99, 99);
        Due.same("42: no DISHES", x.serves(0, 1400, 10, 0), -1);
        Due.tell(x, "a1-99,b1-99", 0);
        Due.same("42: not told", x.serves(2, 1400, 10, 0), -1);
    }

    private static void boil() {
        PotBook x = three();
        Due.tell(x, "a2-3,b1", 0);
        // a pot of 10 and WET 100, 150: 10 or 8 each minute at first
        Due.same("43: the first DISH", x.boil(0, 0, 10, 20), 11);
        Due.same("43: 8 each, less by 25", x.boil(0, 1, 10, 20), 15);
        Due.same("43: never", x.boil(0, 0, 99, 1), -1);
        Due.same("43: no such pot", x.boil(0, 0, 0, 20), -1);
        Due.same("43: no such pot", x.boil(0, 0, 100, 20), -1);
        Due.same("43: no such fire", x.boil(0, 0, 10, 0), -1);
        Due.same("43: no such fire", x.boil(0, 0, 10, 100), -1);
        Due.same("43: no such DISH", x.boil(0, 2, 10, 20), -1);
        Due.same("43: no such DISH", x.boil(0, -1, 10, 20), -1);
        Due.same("43: no such PAGE", x.boil(1, 0, 10, 20), -1);
    }

    private static void boilEdges() {
        PotBook x = three();
        Due.tell(x, "b1", 0);
        Due.same("43: at once", x.boil(0, 0, 1, 9), 1);
        Due.same("43: 80 is not enough", x.boil(0, 0, 1, 8), 2);
        Due.same("43: 10 each", x.boil(0, 0, 99, 99), 11);
        Due.same("43: 10 each", x.boil(0, 0, 1, 1), 11);
        Due.same("43: no such pot", x.boil(0, 0, 100, 99), -1);
        Due.same("43: no such fire", x.boil(0, 0, 1, 100), -1);
        Due.same("43: 8900 by 990, cut", x.boil(0, 0, 99, 89), 15);
        Due.tell(x, "c1", 0);
        Due.same("43: 10 and 6000 by 67, cut, is 99", x.boil(1, 0, 6, 60), 2);
        // 26 after 4 minutes, 50 after 12, 76 after 25, then 1 more each minute
        Due.same("43: 4 each", x.boil(0, 0, 25, 10), 49);
        Due.same("43: 3 each stops at 75", x.boil(0, 0, 33, 10), -1);
    }

    private static void softer() {
        PotBook x = three();
        Due.tell(x, "a1-2,b1-2", 0);
        Due.tell(x, "y:n", 1);
        Due.tell(x, "y:s", 1);
        Due.tell(x, "y:0-n", 1);
        Due.tell(x, "y:5", 1);
        Due.tell(x, "y:w-s", 1);
        // n: 2 3 3 4; s: 3 5 4 6; w - s: 47 45 96 94
        Due.same("53: all but the pair with like n", x.softer(0, 0, 1), 5);
        Due.same("53: the other way", x.softer(0, 0, 2), -5);
        Due.same("53: all alike", x.softer(0, 0, 3), 0);
        Due.same("53: some each way", x.softer(0, 0, 4), 1);
        Due.same("53: itself", x.softer(0, 1, 1), 6);
        Due.same("53: no such LAW", x.softer(0, 0, 5), HIDDEN);
        Due.same("53: no such LAW", x.softer(0, -1, 0), HIDDEN);
        Due.same("53: no such PAGE", x.softer(1, 0, 0), HIDDEN);
        Due.same("53: no such PAGE", x.softer(-1, 0, 0), HIDDEN);
        x.hold(0, 0, 4, 4);
        Due.same("53: one DISH", x.softer(0, 1, 1), 0);
        x.hold(0, 0, 5, 5);
        Due.same("53: no DISHES", x.softer(0, 1, 1), 0);
    }

    private static void softerMany() {
        PotBook x = three();
        Due.tell(x, "a1-20,b1-15", 0);
        Due.tell(x, "a1-43,b1-7", 0);
        Due.tell(x, "a1-99,b1-99", 0);
        Due.tell(x, "y:n", 1);
        Due.tell(x, "y:w+[s-w/50]/2", 1);
        Due.same("53: 300, all unlike", x.softer(0, 1, 1), 300 * 299 / 2);
        Due.same("53: 301", x.softer(1, 1, 1), HIDDEN);
        Due.same("53: not told", x.softer(2, 1, 1), HIDDEN);
        x.hold(1, 0, 3, 999);
        Due.same("53: 300 by a HOLD", x.softer(1, 1, 1), 300 * 299 / 2);
    }

    private static void swapped() {
        PotBook x = three();
        Due.tell(x, "a1-3,c4,b2-6", 0);
        // of a 1 2 3, b 2 .. 6: 2 2, 2 3, 3 2, 3 3
        Due.same("54: some", x.swapped(0, 0, 1), 4);
        Due.same("54: the other way", x.swapped(0, 1, 0), 4);
        Due.same("54: none", x.swapped(0, 0, 2), 0);
        Due.same("54: b 4 alone", x.swapped(0, 2, 1), 3);
        Due.same("54: alike", x.swapped(0, 0, 0), -1);
        Due.same("54: no such THING", x.swapped(0, 0, 3), -1);
        Due.same("54: no such THING", x.swapped(0, -1, 0), -1);
        Due.same("54: no such PAGE", x.swapped(1, 0, 1), -1);
        Due.same("54: no such PAGE", x.swapped(-1, 0, 1), -1);
        Due.tell(x, "y:w", 1);
        x.hold(0, 0, 100, 178);
        // a 2 and b 2 .. 6, a 3 and b 2 .. 6, as w has 28 of c
        Due.same("54: held", x.swapped(0, 0, 1), 4);
        x.hold(0, 0, 100, 177);
        Due.same("54: a 2 alone", x.swapped(0, 0, 1), 1);
        x.hold(0, 0, 0, 1);
        Due.same("54: no DISHES", x.swapped(0, 0, 1), 0);
        swappedHeld();
        Due.tell(x, "a,b", 0);
        Due.same("54: not on the PAGE", x.swapped(1, 0, 2), -1);
        Due.same("54: all", x.swapped(1, 0, 1), 36);
        Due.tell(x, "a1-99,b1-99", 0);
        Due.same("54: not told", x.swapped(2, 0, 1), -1);
    }

    private static void swappedHeld() {
        PotBook x = three();
        Due.tell(x, "a1-9,b1-3", 0);
        Due.same("54: to 3", x.swapped(0, 0, 1), 9);
        Due.same("54: to 3", x.swapped(0, 1, 0), 9);
        Due.tell(x, "b1-3,a1-3", 0);
        Due.tell(x, "y:w/50-[s-w/50]/2", 1);
        x.hold(1, 0, -1000, 1);
        Due.same("54: a - b is 2 no more", x.swapped(1, 0, 1), 7);
        PotBook y = three();
        Due.tell(y, "a1-3,b1-3", 0);
        Due.tell(y, "y:w-[s-w/50]/2*50", 1);
        // a - b is 0 or 1: 1 1, 2 1, 2 2, 3 2, 3 3
        y.hold(0, 0, 0, 50);
        Due.same("54: those with a as b", y.swapped(0, 0, 1), 3);
        Due.same("54: those with a as b", y.swapped(0, 1, 0), 3);
    }

    private static void count() {
        PotBook x = three();
        Due.tell(x, "a", 0);
        Due.tell(x, "a", 0);
        Due.tell(x, "y:1", 1);
        x.hold(0, 0, 1, 1);
        x.hold(0, 0, 1, 1);
        x.hold(1, 0, 1, 1);
        x.hold(1, 0, 1, 1);
        for (int k = 0; k < 5; k++) {
            x.trial(0, 1, true);
        }
        for (int k = 0; k < 6; k++) {
            x.book(-1);
        }
        for (int k = 0; k < 7; k++) {
            x.day(1, true);
        }
        Due.feed(x, "abcdefgh");
        x.most(9);
        int[] due = {2, 1, 3, 4, 5, 6, 7, 8, 9};
        for (int what = 0; what < 9; what++) {
            Due.same("55: " + what, x.count(what), due[what]);
        }
        Due.same("55: no such number", x.count(9), -1);
        Due.same("55: no such number", x.count(-1), -1);
        Due.same("55: no such number", x.count(Integer.MAX_VALUE), -1);
    }
}
