/**
 * Of all that is told: none, one, as many as there may be, and one more. One more is refused, whatever it
 * is, changes nothing, and what stands next to it goes on.
 */
public final class FullTest {
    private static final int NONE = -1;
    private static final Shows SHOWS = new Shows(FullTest::full);

    public static void main(String[] args) {
        none();
        noneRefused();
        one();
        asManyAsMayBe();
        oneMore();
        oneMoreStays();
        bytesOfNumbers();
        bytesBehindAnEnd();
        tapeFull();
        tapeFullOfAll();
        sizesFull();
        pageFull();
        heldByOthers();
        callsToTheLast();
        Due.close("FullTest");
    }

    private static String letters(int from, int many) {
        StringBuilder text = new StringBuilder();
        for (int k = from; k < from + many; k++) {
            text.append(k > from ? "," : "").append((char) ('a' + k)).append(k % 9 + 1);
        }
        return text.toString();
    }

    /** Of everything as many as there may be; no PAGE has more than a few DISHES. */
    private static void full(PotBook x) {
        for (int k = 0; k < 12; k++) {
            x.thing(8 * k, 9 * k, 99 - k, k % 3 == 0, k % 12 + 1, (k + 7) % 12 + 1);
        }
        for (int k = 0; k < 6; k++) {
            x.sized(0, 1200 + 100 * k, k + 1);
            x.sized(1, 1400 + k, 999 - k);
        }
        for (int k = 0; k < 16; k++) {
            Due.tell(x, k == 0 ? "a,b2" : letters(k % 5, k % 8 + 1) + ";" + "BRTSBRTS".substring(0, k % 8 + 1), 0);
        }
        for (int k = 0; k < 6; k++) {
            Due.tell(x, "y:w/" + (k + 1) + "+n", 1);
        }
        for (int k = 0; k < 20; k++) {
            x.hold(k % 16, k % 6, -1000 * k, 9000 * (k + 1));
        }
        for (int k = 0; k < 20; k++) {
            x.trial(k % 6, 10 * k, k % 2 == 0);
        }
        for (int k = 0; k < 12; k++) {
            x.book(k - 1);
        }
        x.reads(11, 3);
        x.reads(5, 4);
        for (int k = 0; k < 10; k++) {
            x.day(k + 1, k % 2 == 0);
        }
        x.bought(9, 0, 50);
        x.bought(9, 1, 60);
        for (int k = 0; k < 6; k++) {
            x.feed(0x61616161, 0x61616161, 0x61616161, 0x61616161, 0x61616161);
        }
    }

    private static void counts(String name, PotBook x, int... due) {
        for (int what = 0; what < due.length; what++) {
            Due.same(name + ": count(" + what + ")", x.count(what), due[what]);
        }
    }

    private static void none() {
        PotBook x = new PotBook();
        counts("none", x, 0, 0, 0, 0, 0, 0, 0, 0, 6);
        Due.same("none: page(0, 0)", Shows.page(x, 0, 0), Shows.THROWN);
        long[] refused = {x.size(0, 1400), x.sized(0, 1400, 5), x.hold(0, 0, 1, 1), x.dishes(0), x.dish(0, 0, 0),
            x.span(0, 0, 0), x.shared(0), x.weigh(0), x.trial(0, 1, true), x.stands(0, 0, 0), x.stand(0, 0, 1), x.could(0),
            x.book(0), x.may(0, 0), x.menu(0, 1, 0, 0), x.messes(0, 1, 0, 0, 0), x.months(0), x.far(0, 0), x.came(0),
            x.leaves(0, 0, 0), x.weight(0, 0, 1400), x.serves(0, 1400, 1, 0), x.boil(0, 0, 1, 99), x.changed(0, 0),
            x.line(0), x.stem(0, 0), x.guess(0, 0), x.nearest(0), x.lacking(0, 0, 0, 1), x.enough(0, 0, 0),
            x.wasted(0, 1, 0, 0), x.lean(0, 1, 0, 0), x.swapped(0, 0, 1), x.text(0), x.text(1)};
        for (int k = 0; k < refused.length; k++) {
            Due.same("none: refused " + k, refused[k], NONE);
        }
        Due.same("none: worth", x.worth(0, 0, 0), -10000000);
        Due.same("none: range", x.range(0, 0, 0), -10000000);
        Due.same("none: softer", x.softer(0, 0, 0), -10000000);
        Due.is("none: reads", x.reads(0, 0), false);
        Due.is("none: bought", x.bought(0, 0, 0), false);
        Due.is("none: wrote", x.wrote(0, 0), false);
        Due.same("none: tree", x.tree(), 0);
        Due.same("none: twice", x.twice(0), 0);
        Due.same("none: first", x.first(), 0);
        Due.same("none: cost", x.cost(7), 0);
        Due.same("none: ways", x.ways(7), 1);
        Due.same("none: the TAPE as a PAGE", x.fault(0), 0);
        Due.same("none: the TAPE as a LAW", x.fault(1), 0);
        Due.is("none: end(0)", x.end(0), true);
        Due.same("none: feed nothing", x.feed(0, 0, 0, 0, 0), 0);
        counts("none", x, 0, 0, 0, 0, 0, 0, 0, 0, 6);
    }

    /** Of nothing told nothing can be told further, and asking tells nothing. */
    private static void noneRefused() {
        Shows bare = new Shows(x -> { });
        bare.refused("7: no THING", x -> x.sized(0, 1400, 5), NONE);
        bare.refused("11: no PAGE", x -> x.hold(0, 0, 1, 1), NONE);
        bare.refused("19: no LAW", x -> x.trial(0, 1, true), NONE);
        bare.refused("22: no BOOK", x -> x.book(0), NONE);
        bare.refused("24: no BOOK", x -> x.reads(0, 3) ? 1 : 0, 0);
        bare.refused("30: no DAY", x -> x.bought(0, 0, 5) ? 1 : 0, 0);
        bare.refused("38: no PAGE", x -> x.wrote(0, 3) ? 1 : 0, 0);
        bare.refused("5: no PAGE", x -> x.text(0), NONE);
        bare.refused("5: no LAW", x -> x.text(1), NONE);
        bare.refused("3: no byte", x -> x.end(1) ? 1 : 0, 0);
        bare.refused("3: none are all", x -> x.end(0) ? 1 : 0, 1);
        bare.refused("2: no bytes", x -> x.feed(0, 0, 0, 0, 0), 0);
        bare.refused("4: FAULT", x -> x.fault(0), 0);
        bare.refused("9: no PAGE", x -> Shows.page(x, 0, 0), Shows.THROWN);
    }

    private static void one() {
        PotBook x = new PotBook();
        Due.same("one: thing", x.thing(1, 2, 3, false, 1, 12), 0);
        Due.same("one: PAGE", Due.tell(x, "a", 0), 0);
        Due.same("one: LAW", Due.tell(x, "y:n", 1), 0);
        Due.same("one: HOLD", x.hold(0, 0, 2, 4), 1);
        Due.same("one: TRIAL", x.trial(0, 3, true), 1);
        Due.same("one: BOOK", x.book(NONE), 0);
        Due.same("one: DAY", x.day(1, true), 0);
        Due.same("one: byte", x.feed(0, 0, 0, 0, 'a'), 1);
        counts("one", x, 1, 1, 1, 1, 1, 1, 1, 1, 6);
        Due.same("one: DISHES", x.dishes(0), 3);
        Due.same("one: TREE", x.tree(), 0);
        Due.same("one: CAME", x.came(0), NONE);
        Due.same("one: LINE", x.line(0), 0);
        Due.same("one: STEM", x.stem(0, 0), 0);
        Due.same("one: FAR", x.far(0, 0), 0);
        Due.same("one: TWICE", x.twice(0), 0);
        Due.same("one: no GUESS but by another PAGE", x.guess(0, 0), NONE);
    }

    private static void asManyAsMayBe() {
        PotBook x = new PotBook();
        full(x);
        counts("full", x, 16, 6, 12, 20, 20, 12, 10, 120, 6);
        Due.same("full: the last THING", x.size(11, 1400), 10);
        Due.same("full: the last PAGE", Shows.page(x, 15, 0), 255);
        Due.same("full: its ACTS", Shows.page(x, 15, 1), 8);
        Due.same("full: the last LAW", x.worth(0, 0, 5), 8 * 2 / 6 + 3);
        Due.same("full: the last BOOK", x.could(11), 8);
        Due.same("full: the last DAY", x.enough(9, 0, 0), 30);
        Due.same("full: the last SIZE", x.size(0, 1999), 6);
    }

    private static void oneMore() {
        SHOWS.refused("6: a thirteenth THING", x -> x.thing(1, 1, 1, false, 1, 12), NONE);
        SHOWS.refused("7: a seventh SIZE", x -> x.sized(0, 1999, 5), NONE);
        SHOWS.refused("7: a seventh SIZE of another", x -> x.sized(1, 1999, 5), NONE);
        SHOWS.refused("11: a HOLD 21", x -> x.hold(0, 0, 0, 1), NONE);
        SHOWS.refused("11: a HOLD 21 of another PAGE", x -> x.hold(15, 5, 0, 1), NONE);
        SHOWS.refused("19: a TRIAL 21", x -> x.trial(0, 1, true), NONE);
        SHOWS.refused("19: a TRIAL 21 of another LAW", x -> x.trial(5, 9999, false), NONE);
        SHOWS.refused("22: a thirteenth BOOK", x -> x.book(NONE), NONE);
        SHOWS.refused("22: a thirteenth BOOK from the last", x -> x.book(11), NONE);
        SHOWS.refused("29: an eleventh DAY", x -> x.day(1, false), NONE);
        SHOWS.refused("29: an eleventh DAY of FISH", x -> x.day(12, true), NONE);
        SHOWS.refused("2: a byte 121", x -> x.feed(0, 0, 0, 0, 1), NONE);
        SHOWS.refused("2: twenty more", x -> x.feed(-1, -1, -1, -1, -1), NONE);
        SHOWS.refused("2: none more is none too many", x -> x.feed(0, 0, 0, 0, 0), 120);
        SHOWS.refused("32: THINGS", x -> x.menu(9, 1 << 16, 0, 0), NONE);
        SHOWS.refused("32: the last PAGE and one more", x -> x.menu(9, 3 << 15, 0, 0), NONE);
    }

    /** A PAGE or a LAW too many is refused and stays on the TAPE, and is no FAULT. */
    private static void oneMoreStays() {
        Shows page = new Shows(x -> tape(x, "a1,b2-3;B"));
        Shows law = new Shows(x -> tape(x, "y:w=1?2;y:3"));
        page.refused("5: a seventeenth PAGE", x -> x.text(0), NONE);
        page.refused("4: it is no FAULT", x -> x.fault(0), NONE);
        law.refused("5: a seventh LAW", x -> x.text(1), NONE);
        law.refused("4: it is no FAULT", x -> x.fault(1), NONE);
        PotBook x = new PotBook();
        tape(x, "l9-99;B");
        Due.same("5: a seventeenth PAGE", x.text(0), NONE);
        Due.same("5: it stays", x.count(7), 7);
        Due.same("4: as a LAW it has a FAULT", x.fault(1), 0);
        Due.same("4: a PAGE without a row of its own", Due.fault(x, "l9-8;B", 0), 3);
        Due.same("4: a LAW without a row of its own", Due.fault(x, "y:w=1?2;y:w=[", 1), 13);
        Due.same("4: the last LAW is as it was", x.worth(0, 0, 5), 8 * 2 / 6 + 3);
        Due.same("4: the last PAGE is as it was", Shows.page(x, 15, 0), 255);
    }

    private static void tape(PotBook x, String text) {
        full(x);
        x.end(0);
        Due.feed(x, text);
    }

    /** Of each number the highest first; bytes of 0 are left out. */
    private static void bytesOfNumbers() {
        int[][] numbers = {{0, 0}, {1, 1}, {255, 1}, {256, 1}, {257, 2}, {65535, 2}, {65536, 1}, {0x10001, 2}, {0x1000000, 1},
            {0x1000001, 2}, {0x1010101, 4}, {-1, 4}, {Integer.MAX_VALUE, 4}, {Integer.MIN_VALUE, 1}, {-256, 3}, {-65536, 2},
            {0xff00ff, 2}, {0xff00ff00, 2}};
        for (int[] n : numbers) {
            for (int at = 0; at < 5; at++) {
                int[] w = new int[5];
                w[at] = n[0];
                Due.same("2: " + n[0], new PotBook().feed(w[0], w[1], w[2], w[3], w[4]), n[1]);
            }
            Due.same("2: five of " + n[0], new PotBook().feed(n[0], n[0], n[0], n[0], n[0]), 5 * n[1]);
        }
        String text = "y:1+2+3+4+5+6+7+8+9+";
        for (int hole = 0; hole < 20; hole++) {
            PotBook x = new PotBook();
            int[] w = new int[5];
            for (int k = 0; k < 20; k++) {
                w[k / 4] |= (k == hole ? 0 : text.charAt(k)) << 24 - 8 * (k % 4);
            }
            Due.same("2: one left out", x.feed(w[0], w[1], w[2], w[3], w[4]), 19);
            String rest = text.substring(0, hole) + text.substring(hole + 1);
            for (int n = 0; n < 20; n++) {
                PotBook y = new PotBook();
                Due.feed(y, rest.substring(0, n));
                PotBook z = new PotBook();
                z.feed(w[0], w[1], w[2], w[3], w[4]);
                Due.is("3: the first of them", z.end(n), true);
                Due.same("4: the first " + n + " of them", z.fault(1), y.fault(1));
            }
        }
    }

    /** The TAPE has its first n bytes alone; what is fed then comes behind these. */
    private static void bytesBehindAnEnd() {
        PotBook x = new PotBook();
        x.thing(1, 1, 1, false, 1, 12);
        x.thing(1, 1, 1, false, 1, 12);
        Due.feed(x, "a5;B2X");
        Due.is("3: two", x.end(2), true);
        Due.same("4: a5", x.fault(0), NONE);
        Due.same("2: behind the two", Due.feed(x, ",b"), 4);
        Due.same("4: a5,b", x.fault(0), NONE);
        Due.is("3: all four", x.end(4), true);
        Due.is("3: no five", x.end(5), false);
        Due.same("5: a5,b", x.text(0), 0);
        Due.same("9: a and b", Shows.page(x, 0, 0), 3);
        Due.same("9: no ACTS", Shows.page(x, 0, 1), 0);
        Due.is("3: none are left", x.end(1), false);
        Due.same("2: from the first on", Due.feed(x, "b"), 1);
        Due.same("5: b", x.text(0), 1);
        Due.same("9: b", Shows.page(x, 1, 0), 2);
    }

    private static void tapeFull() {
        for (int more = 0; more <= 20; more++) {
            PotBook x = new PotBook();
            for (int k = 0; k < 5; k++) {
                x.feed(-1, -1, -1, -1, -1);
            }
            int[] words = new int[5];
            for (int k = 0; k < more; k++) {
                words[k / 4] |= 1 << 8 * (k % 4);
            }
            Due.same("2: 100 and " + more, x.feed(words[0], words[1], words[2], words[3], words[4]), 100 + more);
            int fits = 20 - more;
            int[] rest = new int[5];
            for (int k = 0; k < fits + 1 && k < 20; k++) {
                rest[k / 4] |= 0x80 << 8 * (k % 4);
            }
            if (fits < 20) {
                Due.same("2: one byte too many", x.feed(rest[0], rest[1], rest[2], rest[3], rest[4]), NONE);
            }
            Due.same("2: it changes nothing", x.count(7), 100 + more);
            if (fits > 0) {
                rest[fits / 4 % 5] &= fits < 20 ? ~(0x80 << 8 * (fits % 4)) : -1;
                Due.same("2: 120", x.feed(rest[0], rest[1], rest[2], rest[3], rest[4]), 120);
            }
            Due.is("3: all 120", x.end(120), true);
            Due.is("3: 121", x.end(121), false);
            Due.same("3: it changes nothing", x.count(7), 120);
        }
    }

    /** 120 bytes of a PAGE and of a LAW, and the same with a FAULT at the last byte or behind it. */
    private static void tapeFullOfAll() {
        PotBook x = new PotBook();
        x.thing(1, 1, 1, false, 1, 12);
        String page = "a1" + " ".repeat(115) + ";B9";
        String law = "y:n" + "+1".repeat(58) + " ";
        Due.same("4: 120 of a PAGE", Due.fault(x, page, 0), NONE);
        Due.same("4: 120 of a LAW", Due.fault(x, law, 1), NONE);
        Due.same("4: 120, the last wrong", Due.fault(x, page.substring(0, 119) + "0", 0), 119);
        Due.same("4: 120 that end too early", Due.fault(x, page.substring(0, 117) + "  ;", 0), 120);
        Due.same("4: 120 that end too early", Due.fault(x, law.substring(0, 119) + "*", 1), 120);
        Due.same("4: 120 blanks", Due.fault(x, " ".repeat(120), 0), 120);
        Due.same("4: 120 blanks", Due.fault(x, " ".repeat(120), 1), 120);
        Due.same("4: 120 digits", Due.fault(x, "a" + "1".repeat(119), 0), 3);
        Due.same("4: 120 nested", Due.fault(x, "y:" + "[".repeat(118), 1), 8);
        Due.same("5: 120 of a PAGE", Due.tell(x, page, 0), 0);
        Due.same("5: 120 of a LAW", Due.tell(x, law, 1), 0);
        Due.same("16: 120 of a LAW", x.worth(0, 0, 0), 59);
        Due.same("5: 24 CLAUSES", Due.tell(x, "y:1;".repeat(29) + "y:22", 1), 1);
        Due.same("16: the first of 30 CLAUSES", x.worth(0, 0, 1), 1);
        Due.same("5: 12 CLAUSES with CONDITIONS", Due.tell(x, "y:0>1?9;".repeat(14) + "y:n+6", 1), 2);
        Due.same("16: the last of 15 CLAUSES", x.worth(0, 0, 2), 7);
    }

    private static void sizesFull() {
        PotBook x = new PotBook();
        x.thing(1, 1, 1, false, 1, 12);
        x.thing(1, 1, 1, false, 1, 12);
        for (int k = 1; k <= 6; k++) {
            Due.same("7: the " + k + "-th SIZE", x.sized(0, 1199 + k, 10 * k), k);
            for (int year = 1200; year < 1200 + k; year++) {
                Due.same("8: of " + k + " in " + year, x.size(0, year), 10 * (year - 1199));
            }
            Due.same("8: behind all " + k, x.size(0, 1999), 10 * k);
        }
        Due.same("7: the seventh", x.sized(0, 1206, 70), NONE);
        Due.same("8: the seventh is not told", x.size(0, 1206), 60);
        Due.same("7: another has its own six", x.sized(1, 1206, 70), 1);
        Due.same("8: another has its own", x.size(1, 1200), 70);
    }

    private static void pageFull() {
        PotBook x = new PotBook();
        for (int k = 0; k < 12; k++) {
            x.thing(1, 1, 1, false, 1, 12);
        }
        Due.same("T: one THING", Due.tell(x, "l", 0), 0);
        Due.same("T: eight THINGS", Due.tell(x, "l,a,k,b,j,c,i,d", 0), 1);
        Due.same("9: as bits", Shows.page(x, 1, 0), 0xf0f);
        Due.same("9: all LEFT OUT", Shows.page(x, 1, 2), 0xf0f);
        Due.same("T: nine THINGS", Due.tell(x, "l,a,k,b,j,c,i,d,h", 0), NONE);
        Due.same("T: wrong at its letter", x.fault(0), 16);
        Due.is("T: without it", x.end(15), true);
        Due.same("T: it is none", x.fault(0), NONE);
        Due.same("T: one ACT", Due.tell(x, "a;S", 0), 2);
        Due.same("9: one ACT", Shows.page(x, 2, 1), 1);
        Due.same("T: eight ACTS", Due.tell(x, "a;SSSSSSSS", 0), 3);
        Due.same("9: eight ACTS", Shows.page(x, 3, 1), 8);
        Due.same("T: nine ACTS", Due.tell(x, "a;SSSSSSSSS", 0), NONE);
        Due.same("T: wrong at its letter", x.fault(0), 10);
        Due.same("T: eight ACTS nine times", Due.tell(x, "a;S9S9S9S9S9S9S9S9", 0), 4);
        Due.same("9: told out", Shows.page(x, 4, 1), 72);
        Due.same("T: no ACTS behind ;", Due.tell(x, "a;", 0), NONE);
        Due.same("T: no ACTS without ;", Due.tell(x, "a", 0), 5);
        Due.same("9: no ACTS", Shows.page(x, 5, 1), 0);
    }

    /** The 20 HOLDS and TRIALS are of all PAGES and LAWS together. */
    private static void heldByOthers() {
        PotBook x = new PotBook();
        x.thing(1, 1, 1, false, 1, 12);
        Due.tell(x, "a", 0);
        Due.tell(x, "a", 0);
        Due.tell(x, "y:n", 1);
        Due.tell(x, "y:w", 1);
        for (int k = 1; k <= 20; k++) {
            Due.same("11: HOLD " + k, x.hold(k % 2, k / 2 % 2, 1, 6), k);
            Due.same("19: TRIAL " + k, x.trial(k % 2, k, true), k);
        }
        for (int k = 0; k < 4; k++) {
            Due.same("11: HOLD 21", x.hold(k % 2, k / 2, 1, 2), NONE);
            Due.same("19: TRIAL 21", x.trial(k % 2, -9, true), NONE);
        }
        Due.same("11: HOLD 21 holds nothing", x.dishes(0) + x.dishes(1), 12);
        Due.same("19: TRIAL 21 tells nothing", x.stands(0, 0, 1), 1);
        Due.same("19: TRIAL 21 tells nothing", x.stands(0, 0, 0), NONE);
    }

    /** An object is used for 512 calls: the last of them is answered as the first. */
    private static void callsToTheLast() {
        PotBook x = new PotBook();
        x.thing(7, 0, 0, false, 1, 12);
        for (int k = 0; k < 509; k++) {
            Due.same("6: asked in between", k % 2 == 0 ? x.size(0, 1400) : x.thing(-1, 0, 0, false, 1, 1), k % 2 == 0 ? 10 : NONE);
        }
        Due.same("2: the call before the last", x.feed('a', 0, 0, 0, 0), 1);
        Due.same("5: the last call", x.text(0), 0);
    }
}
