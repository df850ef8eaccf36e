/** Promises 38 to 40, 47 and 48: WRITERS, what they leave out, GUESSES. */
public final class WritersTest {
    public static void main(String[] args) {
        wrote();
        leaves();
        twice();
        guesses();
        nearest();
        Due.close("WritersTest");
    }

    private static PotBook with(String... texts) {
        PotBook x = new PotBook();
        for (int k = 0; k < 4; k++) {
            x.thing(1, 1, 1, false, 1, 12);
        }
        for (String text : texts) {
            Due.same(text, Due.tell(x, text, 0) >= 0 ? 1 : 0, 1);
        }
        return x;
    }

    private static void wrote() {
        PotBook x = with("a", "b");
        Due.is("38: no such PAGE", x.wrote(2, 1), false);
        Due.is("38: no such PAGE", x.wrote(-1, 1), false);
        Due.is("38: no such WRITER", x.wrote(0, 6), false);
        Due.is("38: no such WRITER", x.wrote(0, -1), false);
        Due.same("38: refused changes nothing", x.page(0, 3), 0);
        Due.is("38: told", x.wrote(0, 5), true);
        Due.same("38: told", x.page(0, 3), 5);
        Due.same("38: the other as ever", x.page(1, 3), 0);
        Due.is("38: told anew", x.wrote(0, 0), true);
        Due.same("38: told anew", x.page(0, 3), 0);
    }

    private static void leaves() {
        PotBook x = with("a,b2", "a3,b4", "a,c", "a,b");
        x.wrote(2, 1);
        Due.same("39: LEFT OUT", x.leaves(0, 0, 0), 2);
        Due.same("39: not", x.leaves(0, 0, 1), 1);
        Due.same("39: LEFT OUT", x.leaves(0, 1, 0), 1);
        Due.same("39: not", x.leaves(0, 1, 1), 2);
        Due.same("39: another WRITER", x.leaves(1, 0, 0), 1);
        Due.same("39: another WRITER", x.leaves(1, 0, 1), 0);
        Due.same("39: on no PAGE", x.leaves(0, 2, 0), 0);
        Due.same("39: without PAGES", x.leaves(5, 0, 0), 0);
        Due.same("39: no such WRITER", x.leaves(6, 0, 0), -1);
        Due.same("39: no such WRITER", x.leaves(-1, 0, 0), -1);
        Due.same("39: no such THING", x.leaves(0, 4, 0), -1);
        Due.same("39: no such THING", x.leaves(0, -1, 0), -1);
        Due.same("39: no such number", x.leaves(0, 0, 2), -1);
        Due.same("39: no such number", x.leaves(0, 0, -1), -1);
    }

    private static void twice() {
        PotBook x = with("a,b2", "b1,a3", "a,b", "a,b2,c", "a,b9", "c");
        // left out: a, none, a b, a, a
        Due.same("40: pairs", x.twice(0), 5);
        x.wrote(1, 2);
        Due.same("40: another WRITER's", x.twice(0), 2);
        Due.same("40: one alone", x.twice(2), 0);
        x.wrote(0, 2);
        Due.same("40: two", x.twice(2), 1);
        Due.same("40: no such WRITER", x.twice(6), -1);
        Due.same("40: no such WRITER", x.twice(-1), -1);
        PotBook y = with("a,b1", "a1,b");
        Due.same("40: each way, but one pair", y.twice(0), 1);
    }

    private static void guesses() {
        PotBook x = with("a,b2", "a3-6,c", "a2", "a,d", "a9");
        x.wrote(4, 1);
        Due.same("47: (4 + 2) by 2", x.guess(0, 0), 3);
        Due.same("47: of another PAGE, too", x.guess(3, 0), 3);
        Due.tell(x, "a7", 0);
        Due.same("47: (4 + 2 + 7) by 3", x.guess(0, 0), 4);
        Due.same("47: told there", x.guess(1, 0), -1);
        Due.same("47: not there", x.guess(0, 2), -1);
        Due.same("47: none tells it", x.guess(1, 2), -1);
        Due.same("47: no such THING", x.guess(0, 4), -1);
        Due.same("47: no such THING", x.guess(0, -1), -1);
        Due.same("47: no such THING", x.guess(0, 32), -1);
        Due.same("47: no such PAGE", x.guess(6, 0), -1);
        Due.same("47: no such PAGE", x.guess(-1, 0), -1);
        x.wrote(0, 1);
        Due.same("47: by its WRITER", x.guess(0, 0), 9);
        x.wrote(0, 3);
        Due.same("47: alone", x.guess(0, 0), -1);
        PotBook y = with("a1", "a,b", "b1");
        Due.same("47: by the first PAGE, 1", y.guess(1, 0), 1);
        Due.same("47: by the last PAGE, 1", y.guess(1, 1), 1);
        Due.same("48: the first DISH", y.nearest(1), 0);
        y.most(1);
        Due.same("48: one DISH", y.nearest(1), 0);
    }

    private static void nearest() {
        PotBook x = with("a,b,c2-3", "a3", "b5", "d", "c9");
        // by a, then b, then c: a 3, b 5, and c, told, does not count
        Due.same("48: the lowest of two", x.nearest(0), (2 * 6 + 4) * 2);
        x.most(4);
        Due.same("48: as near as may be", x.nearest(0), (2 * 4 + 3) * 2);
        Due.same("48: no GUESSES", x.nearest(3), -1);
        Due.same("48: nothing LEFT OUT", x.nearest(1), -1);
        Due.same("48: no such PAGE", x.nearest(5), -1);
        Due.same("48: no such PAGE", x.nearest(-1), -1);
        Due.tell(x, "y:n", 1);
        x.hold(0, 0, 5, 5);
        // 1 1 3, 1 2 2, 2 1 2: off by 6, 5, 5
        Due.same("48: held, the lowest of two", x.nearest(0), 1);
        x.hold(0, 0, 4, 4);
        Due.same("48: no DISHES", x.nearest(0), -1);
        x.most(20);
        Due.tell(x, "a,b,c,d", 0);
        Due.same("48: not told", x.nearest(5), -1);
    }
}
