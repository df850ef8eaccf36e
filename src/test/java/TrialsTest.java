/** Promises 19 to 21: TRIALS and what stands by them. */
public final class TrialsTest {
    public static void main(String[] args) {
        telling();
        standing();
        Due.close("TrialsTest");
    }

    /** a and b, of both 1 to 6; LAW 0 is what there is of a, LAW 1 of b. */
    private static PotBook two() {
        PotBook x = new PotBook();
        x.thing(1, 0, 0, false, 1, 12);
        x.thing(0, 1, 0, false, 1, 12);
        Due.tell(x, "a,b2", 0);
        Due.tell(x, "y:w", 1);
        Due.tell(x, "y:s-9", 1);
        return x;
    }

    private static void telling() {
        PotBook x = two();
        Due.same("19: no such LAW", x.trial(2, 1, true), -1);
        Due.same("19: no such LAW", x.trial(-1, 1, true), -1);
        Due.same("19: too low", x.trial(0, -10000, true), -1);
        Due.same("19: too high", x.trial(0, 10000, false), -1);
        Due.same("19: none told", x.count(4), 0);
        Due.same("19: the least", x.trial(1, -9999, false), 1);
        Due.same("19: the greatest", x.trial(1, 9999, true), 2);
        for (int k = 3; k <= 20; k++) {
            Due.same("19: more", x.trial(0, k, false), k);
        }
        Due.same("19: there are 20", x.trial(0, 1, true), -1);
        Due.same("19: count", x.count(4), 20);
        Due.same("20: it changes nothing", x.stands(0, 0, 0), 0);
    }

    private static void standing() {
        PotBook x = two();
        Due.same("20: open", x.stands(0, 0, 0), -1);
        Due.same("21: none", x.stand(0, 0, 1), 0);
        Due.same("21: none", x.stand(0, 0, 0), 0);
        x.trial(0, 5, true);
        x.trial(0, 4, true);
        x.trial(0, 1, false);
        x.trial(0, 2, false);
        int[] due = {0, 0, -1, 1, 1, 1};
        for (int i = 0; i < 6; i++) {
            Due.same("20: DISH " + i, x.stands(0, i, 0), due[i]);
            Due.same("20: by another LAW", x.stands(0, i, 1), -1);
        }
        Due.same("21: stand", x.stand(0, 0, 1), 3);
        Due.same("21: do not", x.stand(0, 0, 0), 2);
        Due.same("21: by another LAW", x.stand(0, 1, 0), 0);
        x.trial(0, 5, false);
        int[] then = {0, 0, 0, -1, -1, 1};
        for (int i = 0; i < 6; i++) {
            Due.same("20: both, DISH " + i, x.stands(0, i, 0), then[i]);
        }
        Due.same("21: stand", x.stand(0, 0, 1), 1);
        Due.same("21: do not", x.stand(0, 0, 0), 3);
        refused(x);
        x.hold(0, 0, 6, 6);
        Due.same("21: held", x.stand(0, 0, 0), 0);
        Due.same("21: held", x.stand(0, 0, 1), 1);
        x.hold(0, 0, 7, 7);
        Due.same("21: no DISHES", x.stand(0, 0, 1), 0);
        Due.same("20: no DISHES", x.stands(0, 0, 0), -1);
        Due.tell(x, "a1-99,b1-99", 0);
        Due.same("21: not told", x.stand(1, 0, 1), -1);
        x.trial(1, -999, false);
        x.trial(1, -7, true);
        Due.tell(x, "b3", 0);
        Due.same("20: below 0", x.stands(2, 0, 1), 1);
    }

    private static void refused(PotBook x) {
        Due.same("20: no such DISH", x.stands(0, 6, 0), -1);
        Due.same("20: no such DISH", x.stands(0, -1, 0), -1);
        Due.same("20: no such LAW", x.stands(0, 0, 2), -1);
        Due.same("20: no such PAGE", x.stands(1, 0, 0), -1);
        Due.same("21: no such side", x.stand(0, 0, 2), -1);
        Due.same("21: no such side", x.stand(0, 0, -1), -1);
        Due.same("21: no such LAW", x.stand(0, 2, 1), -1);
        Due.same("21: no such PAGE", x.stand(1, 0, 1), -1);
    }
}
