/** The edges that "Terms" names of THINGS, SIZES, MOST, DISHES, HOLDS and TRIALS, sentence by sentence. */
public final class DishEdgesTest {
    private static final int NONE = -1;
    private static final int HIDDEN = -10000000;
    private static final int MIN = Integer.MIN_VALUE;
    private static final int MAX = Integer.MAX_VALUE;

    public static void main(String[] args) {
        everyMonthToEveryMonth();
        partsOfThings();
        fleshOrNot();
        sizesByYears();
        sizesBetween();
        mostFromOneToTwenty();
        mostAndHoldsAnew();
        mostOfPartsLeftOutAlone();
        dishesInOrder();
        fiveThousandAtMost();
        fiveThousandByWhatIsLeftOut();
        notToldAtAll();
        holdsAtTheirEdges();
        holdsAtTheBounds();
        holdsThatLeaveNone();
        spansAndShared();
        weighNext();
        weighByTheMostAlike();
        trialsStoodAlone();
        trialsFellAlone();
        trialsOfBoth();
        trialsAtTheirBounds();
        Due.close("DishEdgesTest");
    }

    private static PotBook with(int things) {
        PotBook x = new PotBook();
        for (int k = 0; k < things; k++) {
            x.thing(k == 0 ? 1 : 0, k == 1 ? 1 : 0, k == 2 ? 1 : 0, false, 1, 12);
        }
        return x;
    }

    /** To be had from a month to a month (1 .. 12, both; round the year's end, if the second is lower). */
    private static void everyMonthToEveryMonth() {
        for (int from = 1; from <= 12; from++) {
            PotBook x = new PotBook();
            for (int to = 1; to <= 12; to++) {
                Due.same("6: thing", x.thing(1, 1, 1, false, from, to), to - 1);
                Due.tell(x, "" + (char) ('a' + to - 1), 0);
                int due = 0;
                int month = from;
                due |= 1 << month - 1;
                while (month != to) {
                    month = month % 12 + 1;
                    due |= 1 << month - 1;
                }
                Due.same("34: from " + from + " to " + to, x.months(to - 1), due);
            }
        }
    }

    /** WET, SWEET, FIRM (0 .. 99 each, by a part). */
    private static void partsOfThings() {
        PotBook x = new PotBook();
        x.thing(0, 0, 0, false, 1, 12);
        x.thing(99, 0, 0, false, 1, 12);
        x.thing(0, 99, 0, false, 1, 12);
        x.thing(0, 0, 99, false, 1, 12);
        x.thing(99, 99, 99, true, 1, 12);
        Due.tell(x, "y:w", 1);
        Due.tell(x, "y:s", 1);
        Due.tell(x, "y:f", 1);
        int[][] due = {{0, 0, 0}, {1, 0, 0}, {0, 1, 0}, {0, 0, 1}, {1, 1, 1}};
        for (int thing = 0; thing < 5; thing++) {
            Due.tell(x, (char) ('a' + thing) + "1", 0);
            Due.tell(x, (char) ('a' + thing) + "99", 0);
            for (int law = 0; law < 3; law++) {
                Due.same("16: one part", x.worth(2 * thing, 0, law), due[thing][law] * 99);
                Due.same("16: 99 parts", x.worth(2 * thing + 1, 0, law), due[thing][law] * 9801);
            }
        }
        Due.tell(x, "a99,b99,c99,d99,e99", 0);
        for (int law = 0; law < 3; law++) {
            Due.same("16: all together", x.worth(10, 0, law), 2 * 9801);
        }
    }

    private static void fleshOrNot() {
        PotBook x = new PotBook();
        x.thing(1, 1, 1, false, 1, 12);
        x.thing(1, 1, 1, true, 1, 12);
        for (int k = 2; k < 11; k++) {
            x.thing(1, 1, 1, false, 1, 12);
        }
        x.thing(1, 1, 1, true, 1, 12);
        Due.tell(x, "y:k", 1);
        String[] texts = {"a1", "b1", "a1,b1", "l1", "l9,b9", "k1", "a1,c1,d1,e1,f1,g1,h1,i1", "a1,c1,d1,e1,f1,g1,h1,l1"};
        int[] due = {0, 1, 1, 1, 1, 0, 0, 1};
        for (int page = 0; page < texts.length; page++) {
            Due.tell(x, texts[page], 0);
            Due.same("16: FLESH on " + texts[page], x.worth(page, 0, 0), due[page]);
        }
    }

    /** SIZES: years 1,200 .. 1,999, one later than that told ahead; 1 .. 999. Ahead of all the first, behind all the last. */
    private static void sizesByYears() {
        PotBook x = with(3);
        Due.same("8: 10 without any", x.size(0, 1200), 10);
        Due.same("8: 10 without any", x.size(0, 1999), 10);
        Due.same("8: no year", x.size(0, 1199), NONE);
        Due.same("8: no year", x.size(0, 2000), NONE);
        Due.same("8: no year", x.size(0, MIN), NONE);
        Due.same("8: no year", x.size(0, MAX), NONE);
        Due.same("7: the last year", x.sized(0, 1999, 1), 1);
        Due.same("7: none later", x.sized(0, 1999, 2), NONE);
        Due.same("7: none ahead", x.sized(0, 1998, 2), NONE);
        Due.same("7: none ahead", x.sized(0, 1200, 2), NONE);
        Due.same("8: ahead of all the first", x.size(0, 1200), 1);
        Due.same("8: as told then", x.size(0, 1999), 1);
        Due.same("7: the first year", x.sized(1, 1200, 999), 1);
        Due.same("8: behind all the last", x.size(1, 1999), 999);
        Due.same("7: not later", x.sized(1, 1200, 5), NONE);
        Due.same("7: a year later", x.sized(1, 1201, 5), 2);
        Due.same("7: refused, as it is out of bounds", x.sized(1, 1202, 0), NONE);
        Due.same("7: refused, as it is out of bounds", x.sized(1, 1202, 1000), NONE);
        Due.same("8: it changes nothing", x.size(1, 1202), 5);
        Due.same("7: the same year is still to be told", x.sized(1, 1202, 6), 3);
        Due.same("8: a THING by itself", x.size(2, 1200), 10);
        Due.same("8: no THING", x.size(3, 1400), NONE);
        Due.same("8: no THING", x.size(MIN, 1400), NONE);
        Due.same("8: no THING", x.size(MAX, 1400), NONE);
    }

    /** Between two told years the first and the difference times the years gone by their distance, cut towards 0. */
    private static void sizesBetween() {
        PotBook x = with(4);
        x.sized(0, 1200, 1);
        x.sized(0, 1999, 999);
        x.sized(1, 1200, 999);
        x.sized(1, 1999, 1);
        x.sized(2, 1500, 7);
        x.sized(2, 1600, 7);
        x.sized(3, 1400, 20);
        x.sized(3, 1407, 3);
        x.sized(3, 1410, 4);
        int[][] due = {{0, 1200, 1}, {0, 1201, 2}, {0, 1998, 997}, {0, 1999, 999}, {1, 1200, 999}, {1, 1201, 998}, {1, 1998, 3},
            {1, 1999, 1}, {2, 1499, 7}, {2, 1550, 7}, {2, 1601, 7}, {3, 1399, 20}, {3, 1401, 18}, {3, 1402, 16}, {3, 1403, 13},
            {3, 1404, 11}, {3, 1405, 8}, {3, 1406, 6}, {3, 1407, 3}, {3, 1408, 3}, {3, 1409, 3}, {3, 1410, 4}, {3, 1411, 4}};
        for (int[] d : due) {
            Due.same("8: of " + d[0] + " in " + d[1], x.size(d[0], d[1]), d[2]);
        }
    }

    /** PARTS that are LEFT OUT are 1 .. MOST (1 .. 20; 6 at first). */
    private static void mostFromOneToTwenty() {
        PotBook x = with(1);
        Due.tell(x, "a", 0);
        Due.same("10: at first", x.count(8), 6);
        Due.same("12: at first", x.dishes(0), 6);
        for (int v : new int[] {0, -1, 21, MIN, MAX}) {
            Due.is("10: most(" + v + ")", x.most(v), false);
            Due.same("10: it changes nothing", x.count(8), 6);
            Due.same("12: it changes nothing", x.dishes(0), 6);
        }
        for (int v = 20; v >= 1; v--) {
            Due.is("10: most(" + v + ")", x.most(v), true);
            Due.same("55: MOST", x.count(8), v);
            Due.same("12: 1 .. MOST", x.dishes(0), v);
            Due.same("13: from 1 on", x.dish(0, 0, 0), 1);
            Due.same("13: to MOST", x.dish(0, v - 1, 0), v);
            Due.same("13: no more", x.dish(0, v, 0), NONE);
            Due.same("14: the least", x.span(0, 0, 0), 1);
            Due.same("14: the greatest", x.span(0, 0, 1), v);
        }
        Due.is("10: most(21)", x.most(21), false);
        Due.same("10: it changes nothing", x.dishes(0), 1);
    }

    /** All DISHES are anew behind each MOST and each HOLD, whatever was asked ahead of them. */
    private static void mostAndHoldsAnew() {
        PotBook x = with(1);
        Due.tell(x, "a", 0);
        Due.tell(x, "y:n", 1);
        x.day(1, false);
        x.most(1);
        Due.same("31: the first that is asked", x.may(0, 0), 1);
        x.most(6);
        Due.same("12: 6", x.dishes(0), 6);
        x.hold(0, 0, 1, 5);
        x.most(2);
        Due.same("12: a HOLD, then MOST", x.dishes(0), 2);
        x.most(7);
        x.hold(0, 0, 1, 4);
        Due.same("12: MOST, then a HOLD", x.dishes(0), 4);
        x.most(6);
        Due.same("12: as at first, but held", x.dishes(0), 4);
        x.most(1);
        x.most(6);
        Due.same("12: there and back", x.dishes(0), 4);
        Due.same("31: four", x.may(0, 0), 0);
        x.hold(0, 0, 1, 1);
        Due.same("31: one", x.may(0, 0), 1);
    }

    private static void mostOfPartsLeftOutAlone() {
        PotBook x = with(3);
        Due.tell(x, "a50,b7-9,c", 0);
        x.most(1);
        Due.same("12: told PARTS may be more than MOST", x.dishes(0), 3);
        Due.same("13: told", x.dish(0, 2, 0), 50);
        Due.same("13: told", x.dish(0, 2, 1), 9);
        Due.same("13: LEFT OUT", x.dish(0, 2, 2), 1);
        x.most(20);
        Due.same("12: LEFT OUT", x.dishes(0), 60);
        Due.same("13: told", x.dish(0, 59, 0), 50);
        Due.same("13: LEFT OUT", x.dish(0, 59, 2), 20);
    }

    /** By the PARTS of its first THING, then its second, and so on (the lower first). */
    private static void dishesInOrder() {
        PotBook x = with(4);
        x.most(2);
        Due.tell(x, "c,a3-5,b", 0);
        int i = 0;
        for (int c = 1; c <= 2; c++) {
            for (int a = 3; a <= 5; a++) {
                for (int b = 1; b <= 2; b++) {
                    Due.same("13: c of DISH " + i, x.dish(0, i, 2), c);
                    Due.same("13: a of DISH " + i, x.dish(0, i, 0), a);
                    Due.same("13: b of DISH " + i, x.dish(0, i, 1), b);
                    Due.same("13: d is not on the PAGE", x.dish(0, i, 3), 0);
                    i++;
                }
            }
        }
        Due.same("12: so many", x.dishes(0), i);
        for (int none : new int[] {-1, 12, MIN, MAX}) {
            Due.same("13: no DISH " + none, x.dish(0, none, 0), NONE);
            Due.same("13: no DISH " + none + ", not on the PAGE", x.dish(0, none, 3), NONE);
        }
        Due.tell(x, "y:s", 1);
        x.hold(0, 0, 2, 2);
        Due.same("13: numbered anew by a HOLD", x.dish(0, 0, 1), 2);
        Due.same("13: numbered anew by a HOLD", x.dish(0, 3, 2), 2);
        Due.same("13: numbered anew by a HOLD", x.dish(0, 6, 2), NONE);
    }

    /** All this is told only if what it tells alone lets 5,000 at most: 5,001 are no product of numbers to 99, 5,002 are. */
    private static void fiveThousandAtMost() {
        String[] told = {"a1-50,b1-50,c1-2", "a1-2,b1-50,c1-50", "a1-50,b1-2,c1-50", "a1-99,b1-50", "d1,a1-50,b1-50,c1-2",
            "a50-99,b50-99,c98-99", "a1-50,b1-50,c1-2,d9", "a1-51,b1-49,c1-2"};
        int[] due = {5000, 5000, 5000, 4950, 5000, 5000, 5000, 4998};
        for (int k = 0; k < told.length; k++) {
            PotBook x = with(4);
            Due.tell(x, told[k], 0);
            Due.same("12: " + told[k], x.dishes(0), due[k]);
            Due.is("13: the last of " + told[k], x.dish(0, due[k] - 1, 0) > 0, true);
            Due.same("13: no more of " + told[k], x.dish(0, due[k], 0), NONE);
            int fourth = told[k].startsWith("d1") ? 1 : told[k].endsWith("d9") ? 9 : 0;
            Due.same("13: d of " + told[k], x.dish(0, due[k] - 1, 3), fourth);
            Due.same("13: d of " + told[k], x.dish(0, 0, 3), fourth);
            Due.is("15: of " + told[k], x.shared(0) >= 0, true);
        }
        String[] not = {"a1-41,b1-61,c1-2", "a1-2,b1-41,c1-61", "a1-51,b1-99", "a1-99,b1-51", "a1-50,b1-50,c1-3",
            "a1-50,b1-50,c1-2,d1-2", "a1-99,b1-99,c1-99,d1-99", "a1-71,b1-71"};
        for (String text : not) {
            PotBook x = with(4);
            Due.tell(x, text, 0);
            Due.same("12: " + text, x.dishes(0), NONE);
        }
        PotBook x = with(8);
        Due.tell(x, "a1-99,b1-99,c1-99,d1-99,e1-99,f1-99,g1-99,h1-99", 0);
        Due.tell(x, "a1-2,b1-3,c1-2,d1-3,e1-2,f1-3,g1-2,h1-3", 0);
        Due.same("12: far too many", x.dishes(0), NONE);
        Due.same("12: of eight THINGS", x.dishes(1), 1296);
    }

    private static void fiveThousandByWhatIsLeftOut() {
        int[][] most = {{2, 20, 20}, {3, 17, 18}, {4, 8, 9}, {5, 5, 6}, {6, 4, 5}, {7, 3, 4}, {8, 2, 3}};
        for (int[] m : most) {
            PotBook x = with(8);
            StringBuilder text = new StringBuilder("a");
            for (int k = 1; k < m[0]; k++) {
                text.append(',').append((char) ('a' + k));
            }
            Due.tell(x, text.toString(), 0);
            x.most(m[1]);
            int all = 1;
            for (int k = 0; k < m[0]; k++) {
                all *= m[1];
            }
            Due.same("12: " + m[0] + " THINGS to " + m[1], x.dishes(0), all);
            if (m[2] > m[1]) {
                x.most(m[2]);
                Due.same("12: " + m[0] + " THINGS to " + m[2], x.dishes(0), NONE);
                x.most(m[1]);
                Due.same("12: told again", x.dishes(0), all);
            }
        }
    }

    private static void notToldAtAll() {
        PotBook x = with(4);
        Due.tell(x, "a1-41,b1-61,c1-2", 0);
        Due.tell(x, "y:n", 1);
        x.trial(0, 1, true);
        for (int held = 0; held < 3; held++) {
            Due.same("12: not told", x.dishes(0), NONE);
            Due.same("13: not told", x.dish(0, 0, 0), NONE);
            Due.same("13: not told, nor what is not on the PAGE", x.dish(0, 0, 3), NONE);
            Due.same("14: not told", x.span(0, 0, 0), NONE);
            Due.same("14: not told", x.span(0, 0, 1), NONE);
            Due.same("15: not told", x.shared(0), NONE);
            Due.same("16: not told", x.worth(0, 0, 0), HIDDEN);
            Due.same("17: not told", x.range(0, 0, 0), HIDDEN);
            Due.same("18: not told", x.weigh(0), NONE);
            Due.same("20: not told", x.stands(0, 0, 0), NONE);
            Due.same("21: not told", x.stand(0, 0, 0), NONE);
            Due.same("21: not told", x.stand(0, 0, 1), NONE);
            Due.same("41: not told", x.weight(0, 0, 1400), NONE);
            Due.same("42: not told", x.serves(0, 1400, 1, 0), NONE);
            Due.same("43: not told", x.boil(0, 0, 1, 99), NONE);
            Due.same("48: not told", x.nearest(0), NONE);
            Due.same("53: not told", x.softer(0, 0, 0), HIDDEN);
            Due.same("54: not told", x.swapped(0, 0, 1), NONE);
            Due.same("11: HOLDS of what is not told", x.hold(0, 0, 3, 3 + held), held + 1);
        }
        Due.same("34: MONTHS are told", x.months(0), 4095);
        Due.same("9: the PAGE is told", Shows.page(x, 0, 0), 7);
    }

    /** HOLDS: of a PAGE a LAW's WORTH is within least .. most. */
    private static void holdsAtTheirEdges() {
        for (int low = 1; low <= 6; low++) {
            for (int high = low; high <= 6; high++) {
                PotBook x = with(1);
                Due.tell(x, "a", 0);
                Due.tell(x, "y:n", 1);
                Due.same("11: to below from", x.hold(0, 0, high + 1, high), NONE);
                Due.same("11: it changes nothing", x.dishes(0), 6);
                Due.same("11: it changes nothing", x.count(3), 0);
                Due.same("11: a HOLD", x.hold(0, 0, low, high), 1);
                Due.same("12: within both", x.dishes(0), high - low + 1);
                Due.same("14: the least", x.span(0, 0, 0), low);
                Due.same("14: the greatest", x.span(0, 0, 1), high);
                Due.same("17: the least", x.range(0, 0, 0), low);
                Due.same("17: the greatest", x.range(0, 0, 1), high);
                Due.same("11: all are kept", x.hold(0, 0, 3, 4), 2);
                Due.same("12: within all", x.dishes(0), Math.max(0, Math.min(high, 4) - Math.max(low, 3) + 1));
                Due.same("11: a wide one changes nothing", x.hold(0, 0, -1000000, 1000000), 3);
                Due.same("12: within all", x.dishes(0), Math.max(0, Math.min(high, 4) - Math.max(low, 3) + 1));
            }
        }
    }

    private static void holdsAtTheBounds() {
        PotBook x = with(1);
        Due.tell(x, "a1-3", 0);
        Due.tell(x, "a1-3", 0);
        Due.tell(x, "y:n=1?1000*1000;y:n=2?999*1000+999;y:0-1000*1000", 1);
        Due.same("16: as great as may be", x.worth(0, 0, 0), 1000000);
        Due.same("16: nearly", x.worth(0, 1, 0), 999999);
        Due.same("16: as low as may be", x.worth(0, 2, 0), -1000000);
        Due.same("17: the least", x.range(0, 0, 0), -1000000);
        Due.same("17: the greatest", x.range(0, 0, 1), 1000000);
        int[][] wrong = {{1000001, 1000001}, {1000000, 1000001}, {-1000001, -1000000}, {-1000001, -1000001}, {MIN, MAX},
            {0, MAX}, {MIN, 0}, {MIN, MIN}, {MAX, MAX}, {1000000, 999999}, {-999999, -1000000}, {MAX, MIN}};
        for (int[] w : wrong) {
            Due.same("11: hold(0, 0, " + w[0] + ", " + w[1] + ")", x.hold(0, 0, w[0], w[1]), NONE);
        }
        Due.same("11: it changes nothing", x.dishes(0), 3);
        Due.same("11: all", x.hold(0, 0, -1000000, 1000000), 1);
        Due.same("12: all", x.dishes(0), 3);
        Due.same("11: but the greatest", x.hold(0, 0, -1000000, 999999), 2);
        Due.same("12: but the greatest", x.dishes(0), 2);
        Due.same("11: but the least", x.hold(0, 0, -999999, 999999), 3);
        Due.same("12: but the least", x.dishes(0), 1);
        Due.same("11: the greatest alone", x.hold(1, 0, 1000000, 1000000), 4);
        Due.same("12: the greatest alone", x.dishes(1), 1);
        Due.same("13: the greatest alone", x.dish(1, 0, 0), 1);
        Due.same("11: the least alone, too", x.hold(1, 0, -1000000, -1000000), 5);
        Due.same("12: none", x.dishes(1), 0);
    }

    private static void holdsThatLeaveNone() {
        PotBook x = with(2);
        Due.tell(x, "a,b", 0);
        Due.tell(x, "a", 0);
        Due.tell(x, "y:n", 1);
        x.trial(0, 1, true);
        x.hold(0, 0, 1, 1);
        Due.same("12: no DISHES", x.dishes(0), 0);
        Due.same("13: no DISHES", x.dish(0, 0, 0), NONE);
        Due.same("14: no DISHES", x.span(0, 0, 0), NONE);
        Due.same("14: no DISHES", x.span(0, 0, 1), NONE);
        Due.same("15: no DISHES", x.shared(0), NONE);
        Due.same("16: no DISHES", x.worth(0, 0, 0), HIDDEN);
        Due.same("17: no DISHES", x.range(0, 0, 0), HIDDEN);
        Due.same("17: no DISHES", x.range(0, 0, 1), HIDDEN);
        Due.same("18: no DISHES", x.weigh(0), NONE);
        Due.same("20: no DISHES", x.stands(0, 0, 0), NONE);
        Due.same("21: of no DISHES 0 stand", x.stand(0, 0, 1), 0);
        Due.same("21: of no DISHES 0 do not", x.stand(0, 0, 0), 0);
        Due.same("41: no DISHES", x.weight(0, 0, 1400), NONE);
        Due.same("42: no DISHES", x.serves(0, 1400, 1, 1), NONE);
        Due.same("43: no DISHES", x.boil(0, 0, 1, 99), NONE);
        Due.same("48: no DISHES", x.nearest(0), NONE);
        Due.same("53: no pairs", x.softer(0, 0, 0), 0);
        Due.same("54: none", x.swapped(0, 0, 1), 0);
        Due.same("12: another PAGE is not held", x.dishes(1), 6);
    }

    /** SPAN: its least and its greatest PARTS of these. SHARED: THINGS with the same PARTS in all. */
    private static void spansAndShared() {
        PotBook x = with(4);
        Due.tell(x, "c5,a,b2-3", 0);
        Due.tell(x, "y:n", 1);
        Due.same("15: told by one number", x.shared(0), 4);
        Due.same("14: one number", x.span(0, 2, 0) * 100 + x.span(0, 2, 1), 505);
        Due.same("14: two numbers", x.span(0, 1, 0) * 100 + x.span(0, 1, 1), 203);
        Due.same("14: LEFT OUT", x.span(0, 0, 0) * 100 + x.span(0, 0, 1), 106);
        Due.same("14: not on the PAGE", x.span(0, 3, 0), NONE);
        x.hold(0, 0, 13, 14);
        // a 5 b 3, a 6 b 2, a 6 b 3
        Due.same("12: three", x.dishes(0), 3);
        Due.same("14: a held", x.span(0, 0, 0) * 100 + x.span(0, 0, 1), 506);
        Due.same("15: as before", x.shared(0), 4);
        x.hold(0, 0, 14, 14);
        Due.same("15: all by one DISH", x.shared(0), 7);
        PotBook y = with(4);
        Due.tell(y, "a,b", 0);
        Due.same("15: none", y.shared(0), 0);
        y.most(1);
        Due.same("15: all", y.shared(0), 3);
        for (int none : new int[] {-1, 1, MIN, MAX}) {
            Due.same("14: no PAGE", y.span(none, 0, 0), NONE);
            Due.same("15: no PAGE", y.shared(none), NONE);
            Due.same("18: no PAGE", y.weigh(none), NONE);
        }
    }

    /** WEIGH next: of which the most DISHES with the same PARTS are fewest (of several the first on the PAGE). */
    private static void weighNext() {
        PotBook x = with(4);
        String[] texts = {"a2,b3", "b3,a2", "a2,b", "b,a", "c2-3,a1-2,b7", "a1-2,c5,b1-3", "d"};
        int[] due = {0, 1, 1, 1, 2, 1, 3};
        for (int page = 0; page < texts.length; page++) {
            Due.tell(x, texts[page], 0);
            Due.same("18: of " + texts[page], x.weigh(page), due[page]);
        }
        Due.tell(x, "y:[w-s]*[w-s]", 1);
        x.hold(3, 0, 25, 25);
        // of b, a: 1 6, 6 1
        Due.same("18: one of each by both", x.weigh(3), 1);
        Due.tell(x, "a1-2,b1-4", 0);
        Due.tell(x, "y:w*10+s", 1);
        x.hold(7, 1, 11, 21);
        // 1 1, 1 2, 1 3, 1 4, 2 1: of a 4, of b 2 at most
        Due.same("18: of b", x.weigh(7), 1);
        Due.tell(x, "a1-2,b1-3", 0);
        Due.tell(x, "y:w=1&s<3?1;y:w=2&s=3?1", 1);
        x.hold(8, 2, 1, 1);
        // 1 1, 1 2, 2 3: all of them count, the first and the last, too
        Due.same("18: of b", x.weigh(8), 1);
        Due.tell(x, "y:w=1&s=1?1;y:w=2&s>1?1", 1);
        Due.tell(x, "a1-2,b1-3", 0);
        x.hold(9, 3, 1, 1);
        // 1 1, 2 2, 2 3
        Due.same("18: of b", x.weigh(9), 1);
        Due.tell(x, "b98-99,a99", 0);
        Due.same("18: PARTS to 99", x.weigh(10), 1);
        Due.tell(x, "a99,b98-99", 0);
        Due.same("18: PARTS to 99", x.weigh(11), 1);
    }

    /** Not the THING with the most unlike PARTS, nor the one with the least on the mean. */
    private static void weighByTheMostAlike() {
        PotBook x = with(3);
        Due.tell(x, "a1-3,b1-2,c1-2", 0);
        Due.tell(x, "y:w=1?1;y:w=2&s=1&f=1?1;y:w=3&s=2&f=1?1", 1);
        x.hold(0, 0, 1, 1);
        // of a 4 1 1, of b 3 3, of c 4 2
        Due.same("12: six", x.dishes(0), 6);
        Due.same("18: b, of which two are to be had alone", x.weigh(0), 1);
        Due.tell(x, "a1-5,b1-3,c1-2", 0);
        Due.tell(x, "y:w=1&s=1?1;y:w=1&f=1?1;y:f=2?0;y:w=2&s=1|w=3&s=2|w=4&s=2|w=5&s=3?1", 1);
        x.hold(1, 1, 1, 1);
        // of a 4 1 1 1 1, of b 3 3 2, of c 7 1
        Due.same("12: eight", x.dishes(1), 8);
        Due.same("18: b, though of a there are fewer on the mean", x.weigh(1), 1);
    }

    /** What has no less than the least that STOOD stands (1); open: NONE. */
    private static void trialsStoodAlone() {
        PotBook x = with(1);
        Due.tell(x, "a", 0);
        Due.tell(x, "y:n", 1);
        Due.tell(x, "y:0-n", 1);
        for (int i = 0; i < 6; i++) {
            Due.same("20: open", x.stands(0, i, 0), NONE);
        }
        Due.same("21: none is open for nothing", x.stand(0, 0, 1) + x.stand(0, 0, 0), 0);
        int[] worths = {9, 4, 5, 3};
        for (int k = 0; k < worths.length; k++) {
            Due.same("19: a TRIAL", x.trial(0, worths[k], true), k + 1);
            int least = Math.min(9, k == 0 ? 9 : k < 3 ? 4 : 3);
            for (int i = 0; i < 6; i++) {
                Due.same("20: n of " + (i + 1), x.stands(0, i, 0), i + 1 >= least ? 1 : NONE);
            }
            Due.same("21: stand", x.stand(0, 0, 1), Math.max(0, 7 - least));
            Due.same("21: none that does not", x.stand(0, 0, 0), 0);
        }
        Due.same("20: by another LAW", x.stands(0, 5, 1), NONE);
    }

    /** What has no more than the greatest that did not does not (0). */
    private static void trialsFellAlone() {
        PotBook x = with(1);
        Due.tell(x, "a", 0);
        Due.tell(x, "y:n", 1);
        int[] worths = {0, 3, 2, 4};
        for (int k = 0; k < worths.length; k++) {
            Due.same("19: a TRIAL", x.trial(0, worths[k], false), k + 1);
            int greatest = k == 0 ? 0 : k < 3 ? 3 : 4;
            for (int i = 0; i < 6; i++) {
                Due.same("20: n of " + (i + 1), x.stands(0, i, 0), i + 1 <= greatest ? 0 : NONE);
            }
            Due.same("21: do not", x.stand(0, 0, 0), greatest);
            Due.same("21: none that stands", x.stand(0, 0, 1), 0);
        }
    }

    /** Both: NONE. */
    private static void trialsOfBoth() {
        for (int stood = 0; stood <= 7; stood++) {
            for (int fell = 0; fell <= 7; fell++) {
                PotBook x = with(1);
                Due.tell(x, "a", 0);
                Due.tell(x, "y:n", 1);
                x.trial(0, stood, true);
                x.trial(0, fell, false);
                int stand = 0;
                int fall = 0;
                for (int n = 1; n <= 6; n++) {
                    int due = n >= stood && n <= fell || n < stood && n > fell ? NONE : n >= stood ? 1 : 0;
                    stand += due == 1 ? 1 : 0;
                    fall += due == 0 ? 1 : 0;
                    Due.same("20: " + n + ", stood " + stood + ", fell " + fell, x.stands(0, n - 1, 0), due);
                }
                Due.same("21: stood " + stood + ", fell " + fell, x.stand(0, 0, 1), stand);
                Due.same("21: stood " + stood + ", fell " + fell, x.stand(0, 0, 0), fall);
            }
        }
    }

    /** By a LAW something with so much WORTH (-9,999 .. 9,999). */
    private static void trialsAtTheirBounds() {
        PotBook x = with(1);
        Due.tell(x, "a1-4", 0);
        Due.tell(x, "y:n=1?0-9999;y:n=2?9999;y:n=3?9999+1;y:0-9999-1", 1);
        for (int v : new int[] {-10000, 10000, MIN, MAX}) {
            Due.same("19: trial " + v, x.trial(0, v, true), NONE);
            Due.same("19: trial " + v, x.trial(0, v, false), NONE);
        }
        for (int i = 0; i < 4; i++) {
            Due.same("19: it changes nothing", x.stands(0, i, 0), NONE);
        }
        x.trial(0, 9999, true);
        x.trial(0, -9999, false);
        int[] due = {0, 1, 1, 0};
        for (int i = 0; i < 4; i++) {
            Due.same("20: DISH " + i, x.stands(0, i, 0), due[i]);
        }
        x.trial(0, -9999, true);
        int[] then = {NONE, 1, 1, 0};
        for (int i = 0; i < 4; i++) {
            Due.same("20: then DISH " + i, x.stands(0, i, 0), then[i]);
        }
        x.trial(0, 9999, false);
        int[] last = {NONE, NONE, 1, 0};
        for (int i = 0; i < 4; i++) {
            Due.same("20: last DISH " + i, x.stands(0, i, 0), last[i]);
        }
        Due.same("21: stand", x.stand(0, 0, 1), 1);
        Due.same("21: do not", x.stand(0, 0, 0), 1);
    }
}
