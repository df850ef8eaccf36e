import java.util.Arrays;
import java.util.Set;

/**
 * Of each call of the face each argument by itself: the last value inside and the first outside on both
 * sides, the least and the greatest int. What is refused answers as told and changes nothing.
 */
public final class BoundsTest {
    private static final int NONE = -1;
    private static final int HIDDEN = -10000000;
    private static final Shows SHOWS = new Shows(BoundsTest::stocked);

    /** The calls that tell something; all others ask alone, and change nothing if they are answered, too. */
    private static final Set<String> TELLING = Set.of("end", "thing", "sized", "most", "hold", "trial", "book", "slip", "reads",
            "day", "bought", "wrote");

    interface Asked {
        long ask(PotBook x, int[] a);
    }

    public static void main(String[] args) {
        tapeCalls();
        thingCalls();
        pageCalls();
        dishCalls();
        lawCalls();
        bookCalls();
        slipCalls();
        dayCalls();
        menuCalls();
        kinCalls();
        writerCalls();
        potCalls();
        Due.close("BoundsTest");
    }

    /** A few of all; PAGE 0 has five DISHES, PAGE 1 one, PAGE 2 six, PAGE 3 four; DAY 0 has MENUS by PAGE 1. */
    private static void stocked(PotBook x) {
        x.thing(50, 0, 1, false, 1, 12);
        x.thing(0, 40, 2, false, 6, 9);
        x.thing(5, 0, 20, true, 11, 2);
        x.sized(0, 1400, 20);
        x.sized(0, 1500, 41);
        Due.tell(x, "a2,b;BT2", 0);
        Due.tell(x, "a1,c2;BRT", 0);
        Due.tell(x, "a,b4;B", 0);
        Due.tell(x, "b2-5;T", 0);
        Due.tell(x, "y:w+s", 1);
        Due.tell(x, "y:n", 1);
        x.hold(0, 1, 3, 7);
        x.trial(0, 150, false);
        x.trial(0, 200, true);
        x.trial(1, 3, true);
        x.book(NONE);
        x.book(0);
        x.book(0);
        x.slip(0, 3, 4);
        x.reads(1, 3);
        x.day(12, false);
        x.day(12, true);
        x.bought(0, 0, 7);
        x.bought(0, 2, 14);
        x.wrote(1, 3);
        Due.feed(x, "a1;BX");
    }

    /** From each argument's least to its greatest value within; null: it has no bounds. */
    private static void bounds(String name, Asked call, long refused, int[] base, int[]... within) {
        answered(name, call, refused, base);
        for (int at = 0; at < within.length; at++) {
            if (within[at] == null) {
                continue;
            }
            int low = within[at][0];
            int high = within[at][1];
            answered(name, call, refused, with(base, at, low));
            answered(name, call, refused, with(base, at, high));
            for (int v : new int[] {low - 1, high + 1, Integer.MIN_VALUE, Integer.MAX_VALUE}) {
                int[] a = with(base, at, v);
                SHOWS.refused(told(name, a), x -> call.ask(x, a), refused);
            }
        }
    }

    private static int[] with(int[] base, int at, int v) {
        int[] a = base.clone();
        a[at] = v;
        return a;
    }

    private static String told(String name, int[] a) {
        return name + Arrays.toString(a);
    }

    private static void answered(String name, Asked call, long refused, int[] a) {
        PotBook x = new PotBook();
        stocked(x);
        long answer = call.ask(x, a);
        Due.is(told(name, a) + " answered " + answer + ", that it is not refused", answer != refused, true);
        if (!TELLING.contains(name.split(" ")[1])) {
            SHOWS.refused(told(name, a) + " asks alone", y -> call.ask(y, a), answer);
        }
    }

    private static int[] to(int low, int high) {
        return new int[] {low, high};
    }

    private static int[] row(int... a) {
        return a;
    }

    private static long bit(boolean b) {
        return b ? 1 : 0;
    }

    private static long textOf(PotBook x, String text, int sort) {
        x.end(0);
        Due.feed(x, text);
        return x.text(sort);
    }

    private static void tapeCalls() {
        bounds("3: end", (x, a) -> bit(x.end(a[0])), 0, row(2), to(0, 5));
        bounds("4: fault", (x, a) -> x.fault(a[0]), -2, row(0), to(0, 1));
        bounds("55: count", (x, a) -> x.count(a[0]), NONE, row(0), to(0, 8));
        SHOWS.refused("5: text of a FAULT", x -> x.text(0), NONE);
        for (int sort : new int[] {-1, 2, Integer.MIN_VALUE, Integer.MAX_VALUE}) {
            SHOWS.refused("5: text(" + sort + ")", x -> x.text(sort), NONE);
        }
        Shows page = new Shows(x -> tape(x, "a1"));
        Shows law = new Shows(x -> tape(x, "y:n"));
        for (int sort : new int[] {-1, 1, 2, Integer.MIN_VALUE, Integer.MAX_VALUE}) {
            page.refused("5: a PAGE as text(" + sort + ")", x -> x.text(sort), NONE);
        }
        for (int sort : new int[] {-1, 0, 2, Integer.MIN_VALUE, Integer.MAX_VALUE}) {
            law.refused("5: a LAW as text(" + sort + ")", x -> x.text(sort), NONE);
        }
        PotBook x = new PotBook();
        stocked(x);
        Due.same("5: a PAGE", textOf(x, "a1", 0), 4);
        Due.same("5: the TAPE is empty then", x.count(7), 0);
        Due.same("5: empty it is no PAGE", x.text(0), NONE);
        Due.same("5: a LAW", textOf(x, "y:n", 1), 2);
        Due.same("5: the TAPE is empty then", x.count(7), 0);
        Due.same("5: empty it is no LAW", x.text(1), NONE);
    }

    private static void tape(PotBook x, String text) {
        stocked(x);
        x.end(0);
        Due.feed(x, text);
    }

    private static void thingCalls() {
        int[] part = to(0, 99);
        int[] month = to(1, 12);
        bounds("6: thing", (x, a) -> x.thing(a[0], a[1], a[2], a[3] > 0, a[4], a[5]), NONE, row(5, 6, 7, 1, 3, 8),
                part, part, part, null, month, month);
        bounds("7: sized", (x, a) -> x.sized(a[0], a[1], a[2]), NONE, row(1, 1999, 5), to(0, 2), to(1200, 1999), to(1, 999));
        bounds("7: sized later", (x, a) -> x.sized(a[0], a[1], a[2]), NONE, row(0, 1600, 5), null, to(1501, 1999));
        bounds("8: size", (x, a) -> x.size(a[0], a[1]), NONE, row(0, 1400), to(0, 2), to(1200, 1999));
    }

    private static void pageCalls() {
        bounds("9: page", (x, a) -> Shows.page(x, a[0], a[1]), Shows.THROWN, row(0, 0), to(0, 3), to(0, 3));
        bounds("10: most", (x, a) -> bit(x.most(a[0])), 0, row(3), to(1, 20));
        bounds("11: hold", (x, a) -> x.hold(a[0], a[1], a[2], a[3]), NONE, row(1, 0, 5, 5), to(0, 3), to(0, 1),
                to(-1000000, 5), to(5, 1000000));
        bounds("11: hold", (x, a) -> x.hold(a[0], a[1], a[2], a[3]), NONE, row(1, 0, -1000000, 1000000), null, null,
                to(-1000000, 1000000), to(-1000000, 1000000));
        bounds("34: months", (x, a) -> x.months(a[0]), NONE, row(0), to(0, 3));
    }

    private static void dishCalls() {
        int[] pages = to(0, 3);
        int[] side = to(0, 1);
        bounds("12: dishes", (x, a) -> x.dishes(a[0]), NONE, row(0), pages);
        bounds("13: dish", (x, a) -> x.dish(a[0], a[1], a[2]), NONE, row(0, 0, 0), pages, to(0, 4), to(0, 2));
        bounds("14: span", (x, a) -> x.span(a[0], a[1], a[2]), NONE, row(0, 1, 0), null, to(0, 1), side);
        bounds("14: span", (x, a) -> x.span(a[0], a[1], a[2]), NONE, row(1, 0, 0), to(0, 2), null, side);
        bounds("15: shared", (x, a) -> x.shared(a[0]), NONE, row(0), pages);
        bounds("18: weigh", (x, a) -> x.weigh(a[0]), NONE, row(0), pages);
    }

    private static void lawCalls() {
        int[] pages = to(0, 3);
        int[] laws = to(0, 1);
        int[] side = to(0, 1);
        bounds("16: worth", (x, a) -> x.worth(a[0], a[1], a[2]), HIDDEN, row(0, 0, 0), pages, to(0, 4), laws);
        bounds("17: range", (x, a) -> x.range(a[0], a[1], a[2]), HIDDEN, row(0, 0, 0), pages, laws, side);
        bounds("19: trial", (x, a) -> x.trial(a[0], a[1], a[2] > 0), NONE, row(0, 5, 1), laws, to(-9999, 9999));
        bounds("19: trial", (x, a) -> x.trial(a[0], a[1], a[2] > 0), NONE, row(0, 5, 0), laws, to(-9999, 9999));
        bounds("20: stands", (x, a) -> x.stands(a[0], a[1], a[2]), NONE, row(0, 0, 0), pages, to(0, 4), laws);
        bounds("21: stand", (x, a) -> x.stand(a[0], a[1], a[2]), NONE, row(0, 0, 0), pages, laws, side);
        bounds("53: softer", (x, a) -> x.softer(a[0], a[1], a[2]), HIDDEN, row(0, 0, 0), pages, laws, laws);
    }

    private static void bookCalls() {
        int[] words = to(0, 7);
        bounds("22: book", (x, a) -> x.book(a[0]), NONE, row(0), to(-1, 2));
        bounds("24: reads", (x, a) -> bit(x.reads(a[0], a[1])), 0, row(0, 0), to(0, 2), to(-1, 7));
        bounds("25: cost", (x, a) -> x.cost(a[0]), NONE, row(0), words);
        bounds("26: ways", (x, a) -> x.ways(a[0]), NONE, row(0), words);
        bounds("28: could", (x, a) -> x.could(a[0]), NONE, row(0), to(0, 2));
    }

    /** A WORD and itself is refused, too: so of the one side the bound is the other WORD. */
    private static void slipCalls() {
        Asked slip = (x, a) -> bit(x.slip(a[0], a[1], a[2]));
        bounds("23: slip", slip, 0, row(0, 7, 5), to(0, 6), to(1, 7), to(0, 99));
        bounds("23: slip", slip, 0, row(7, 0, 5), to(1, 7), to(0, 6), to(0, 99));
        for (int word = 0; word < 8; word++) {
            int alike = word;
            SHOWS.refused("23: alike " + word, x -> bit(x.slip(alike, alike, 5)), 0);
        }
    }

    private static void dayCalls() {
        int[] days = to(0, 1);
        int[] pages = to(0, 3);
        bounds("29: day", (x, a) -> x.day(a[0], a[1] > 0), NONE, row(3, 0), to(1, 12));
        bounds("29: day", (x, a) -> x.day(a[0], a[1] > 0), NONE, row(3, 1), to(1, 12));
        bounds("30: bought", (x, a) -> bit(x.bought(a[0], a[1], a[2])), 0, row(0, 0, 5), days, to(0, 2), to(0, 999));
        bounds("31: may", (x, a) -> x.may(a[0], a[1]), NONE, row(0, 0), days, pages);
        bounds("49: lacking", (x, a) -> x.lacking(a[0], a[1], a[2], a[3]), NONE, row(0, 0, 0, 5), days, pages, to(0, 4),
                to(1, 99));
        bounds("50: enough", (x, a) -> x.enough(a[0], a[1], a[2]), NONE, row(0, 0, 0), days, pages, to(0, 4));
    }

    /** By PAGE 1 on DAY 0 with 7 OVER there are the four MENUS of 4 .. 7 messes. */
    private static void menuCalls() {
        int[] days = to(0, 1);
        int[] over = to(0, 99);
        bounds("32: menu", (x, a) -> x.menu(a[0], a[1], a[2], a[3]), NONE, row(0, 2, 7, 0), days, to(1, 15), over, to(0, 4));
        bounds("33: messes", (x, a) -> x.messes(a[0], a[1], a[2], a[3], a[4]), NONE, row(0, 2, 7, 0, 1), days, to(2, 15),
                over, to(0, 3), to(1, 1));
        bounds("33: messes", (x, a) -> x.messes(a[0], a[1], a[2], a[3], a[4]), NONE, row(0, 15, 7, 0, 1), days, to(2, 15),
                over, to(0, 3), to(0, 3));
        bounds("51: wasted", (x, a) -> x.wasted(a[0], a[1], a[2], a[3]), NONE, row(0, 2, 7, 0), days, to(1, 15), over,
                to(0, 3));
        bounds("52: lean", (x, a) -> x.lean(a[0], a[1], a[2], a[3]), NONE, row(0, 2, 7, 0), days, to(1, 15), over, to(0, 2));
    }

    private static void kinCalls() {
        int[] pages = to(0, 3);
        int[] laterPages = to(1, 3);
        bounds("35: far", (x, a) -> x.far(a[0], a[1]), NONE, row(0, 1), pages, pages);
        bounds("36: came", (x, a) -> x.came(a[0]), NONE, row(1), laterPages);
        bounds("44: changed", (x, a) -> x.changed(a[0], a[1]), NONE, row(1, 0), laterPages, to(0, 3));
        bounds("45: line", (x, a) -> x.line(a[0]), NONE, row(0), pages);
        bounds("46: stem", (x, a) -> x.stem(a[0], a[1]), NONE, row(0, 1), pages, pages);
    }

    private static void writerCalls() {
        int[] writers = to(0, 5);
        bounds("38: wrote", (x, a) -> bit(x.wrote(a[0], a[1])), 0, row(0, 0), to(0, 3), writers);
        bounds("39: leaves", (x, a) -> x.leaves(a[0], a[1], a[2]), NONE, row(0, 0, 0), writers, to(0, 2), to(0, 1));
        bounds("40: twice", (x, a) -> x.twice(a[0]), NONE, row(0), writers);
        bounds("47: guess", (x, a) -> x.guess(a[0], a[1]), NONE, row(2, 0), to(2, 2), to(0, 0));
        bounds("48: nearest", (x, a) -> x.nearest(a[0]), NONE, row(0), to(0, 0));
        bounds("48: nearest", (x, a) -> x.nearest(a[0]), NONE, row(2), to(2, 2));
        bounds("54: swapped", (x, a) -> x.swapped(a[0], a[1], a[2]), NONE, row(0, 0, 1), to(0, 0), to(0, 0), to(1, 1));
        bounds("54: swapped", (x, a) -> x.swapped(a[0], a[1], a[2]), NONE, row(2, 1, 0), to(2, 2), to(1, 1), to(0, 0));
    }

    /** With b alone, not WET, any pot on as great a fire boils. */
    private static void potCalls() {
        int[] pages = to(0, 3);
        int[] years = to(1200, 1999);
        bounds("41: weight", (x, a) -> x.weight(a[0], a[1], a[2]), NONE, row(0, 0, 1400), pages, to(0, 4), years);
        bounds("42: serves", (x, a) -> x.serves(a[0], a[1], a[2], a[3]), NONE, row(0, 1400, 5, 0), pages, years, to(1, 9999),
                to(0, 1));
        bounds("43: boil", (x, a) -> x.boil(a[0], a[1], a[2], a[3]), NONE, row(3, 0, 1, 99), pages, to(0, 3), to(1, 99),
                to(1, 99));
    }
}
