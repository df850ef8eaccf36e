/** The edges that "Terms" names of BOOKS, WORDS and SLIPS, sentence by sentence. */
public final class BookEdgesTest {
    private static final int NONE = -1;
    private static final int MIN = Integer.MIN_VALUE;
    private static final int MAX = Integer.MAX_VALUE;

    public static void main(String[] args) {
        toldBefore();
        twelveInARow();
        twelveOfTheFirst();
        slipsCost();
        slipsRefused();
        wordsRead();
        noBooks();
        costsTogether();
        costsAtTheMost();
        waysAreCounted();
        waysAtTheMost();
        stoodFirst();
        couldHaveRead();
        couldOfTheLeastAlone();
        Due.close("BookEdgesTest");
    }

    private static PotBook books(int... from) {
        PotBook x = new PotBook();
        for (int k = 0; k < from.length; k++) {
            Due.same("22: BOOK " + k, x.book(from[k]), k);
        }
        return x;
    }

    private static void costs(String name, PotBook x, int... due) {
        for (int word = 0; word < 8; word++) {
            Due.same("25: " + name + ", WORD " + word, x.cost(word), due[word]);
        }
    }

    private static void ways(String name, PotBook x, int... due) {
        for (int word = 0; word < 8; word++) {
            Due.same("26: " + name + ", WORD " + word, x.ways(word), due[word]);
        }
    }

    /** Copied from a BOOK told before, or from the lost FIRST one (NONE). */
    private static void toldBefore() {
        PotBook x = new PotBook();
        for (int from : new int[] {0, 1, -2, MIN, MAX}) {
            Due.same("22: from " + from + " without any", x.book(from), NONE);
        }
        Due.same("55: none", x.count(5), 0);
        for (int k = 0; k < 12; k++) {
            for (int from : new int[] {k, k + 1, 12, -2, MIN, MAX}) {
                Due.same("22: BOOK " + k + " from " + from, x.book(from), NONE);
            }
            Due.same("55: so many", x.count(5), k);
            Due.same("22: from the last", x.book(k - 1), k);
        }
        for (int from : new int[] {-1, 0, 11, 12, MIN, MAX}) {
            Due.same("22: a thirteenth from " + from, x.book(from), NONE);
        }
        Due.same("55: twelve", x.count(5), 12);
    }

    private static void twelveInARow() {
        PotBook x = books(-1, 0, 1, 2, 3, 4, 5, 6, 7, 8, 9, 10);
        Due.is("24: the last", x.reads(11, 7), true);
        Due.is("24: no more", x.reads(12, 7), false);
        costs("a row of twelve", x, 10, 10, 10, 10, 10, 10, 10, 0);
        ways("a row of twelve", x, 12, 12, 12, 12, 12, 12, 12, 1);
        Due.same("27: the last one's", x.first(), 7);
        for (int book = 0; book < 12; book++) {
            Due.same("28: BOOK " + book, x.could(book), 128);
        }
        Due.is("24: the first", x.reads(0, 0), true);
        costs("both ends", x, 10, 20, 20, 20, 20, 20, 20, 20);
        ways("both ends", x, 11, 11, 11, 11, 11, 11, 11, 11);
        Due.same("28: in the middle", x.could(5), 129);
        Due.same("28: an end", x.could(0), 1);
        Due.same("28: an end", x.could(11), 128);
    }

    private static void twelveOfTheFirst() {
        PotBook x = books(-1, -1, -1, -1, -1, -1, -1, -1, -1, -1, -1, -1);
        for (int book = 0; book < 12; book++) {
            x.reads(book, book % 8);
        }
        costs("twelve of the FIRST", x, 100, 100, 100, 100, 110, 110, 110, 110);
        ways("twelve of the FIRST", x, 1, 1, 1, 1, 1, 1, 1, 1);
        Due.same("27: the lowest of four", x.first(), 0);
    }

    /** A SLIP from one to another one costs 0 .. 99 (10 at first; 0 for itself). */
    private static void slipsCost() {
        PotBook x = books(-1);
        x.reads(0, 3);
        costs("10 at first, 0 for itself", x, 10, 10, 10, 0, 10, 10, 10, 10);
        for (int cost : new int[] {0, 1, 9, 11, 98, 99, 0}) {
            Due.is("23: costs " + cost, x.slip(5, 3, cost), true);
            costs("of 5 alone", x, 10, 10, 10, 0, 10, cost, 10, 10);
        }
        x.slip(3, 5, 7);
        costs("from 3 to 5 is another one", x, 10, 10, 10, 0, 10, 0, 10, 10);
        Due.same("27: 3 and 5 cost nothing", x.first(), 3);
        x.reads(0, 5);
        costs("from 3 to 5", x, 10, 10, 10, 7, 10, 0, 10, 10);
        for (int one = 0; one < 8; one++) {
            for (int other = 0; other < 8; other++) {
                PotBook y = books(-1);
                y.reads(0, other);
                Due.is("23: told or alike", y.slip(one, other, 99), one != other);
                for (int word = 0; word < 8; word++) {
                    int due = word == other ? 0 : word == one ? 99 : 10;
                    Due.same("25: " + one + " to " + other, y.cost(word), due);
                }
            }
        }
    }

    private static void slipsRefused() {
        PotBook x = books(-1);
        int[][] wrong = {{3, 3, 5}, {0, 0, 0}, {7, 7, 99}, {8, 8, 5}, {-1, -1, 5}, {-1, 3, 5}, {8, 3, 5}, {5, -1, 5}, {5, 8, 5},
            {5, 3, -1}, {5, 3, 100}, {MIN, 3, 5}, {MAX, 3, 5}, {5, MIN, 5}, {5, MAX, 5}, {5, 3, MIN}, {5, 3, MAX}, {8, 7, 5}};
        for (int[] w : wrong) {
            Due.is("23: slip " + w[0] + " " + w[1] + " " + w[2], x.slip(w[0], w[1], w[2]), false);
        }
        for (int word = 0; word < 8; word++) {
            x.reads(0, word);
            for (int first = 0; first < 8; first++) {
                Due.same("23: it changes nothing", x.cost(first), first == word ? 0 : 10);
            }
        }
    }

    /** What a BOOK READS is a WORD, or lost (as at first). */
    private static void wordsRead() {
        PotBook x = books(-1);
        costs("lost at first", x, 0, 0, 0, 0, 0, 0, 0, 0);
        for (int word = 0; word < 8; word++) {
            Due.is("24: reads " + word, x.reads(0, word), true);
            Due.same("28: reads " + word, x.could(0), 1 << word);
            Due.same("27: reads " + word, x.first(), word);
            for (int none : new int[] {8, -2, MIN, MAX}) {
                Due.is("24: no WORD " + none, x.reads(0, none), false);
            }
            for (int none : new int[] {1, -1, 12, MIN, MAX}) {
                Due.is("24: no BOOK " + none, x.reads(none, 0), false);
                Due.same("28: no BOOK " + none, x.could(none), NONE);
            }
            Due.same("24: it changes nothing", x.first(), word);
        }
        Due.is("24: lost", x.reads(0, NONE), true);
        costs("lost again", x, 0, 0, 0, 0, 0, 0, 0, 0);
        Due.same("28: lost again", x.could(0), 255);
    }

    private static void noBooks() {
        PotBook x = new PotBook();
        costs("no BOOKS", x, 0, 0, 0, 0, 0, 0, 0, 0);
        ways("no BOOKS", x, 1, 1, 1, 1, 1, 1, 1, 1);
        Due.same("27: the lowest of all", x.first(), 0);
        Due.same("28: none", x.could(0), NONE);
        for (int none : new int[] {-1, 8, MIN, MAX}) {
            Due.same("25: no WORD " + none, x.cost(none), NONE);
            Due.same("26: no WORD " + none, x.ways(none), NONE);
        }
    }

    /** COST: the least that SLIPS of all copyings cost together, whatever lost WORDS were. */
    private static void costsTogether() {
        PotBook x = books(-1, 0, 0, 0);
        x.reads(1, 1);
        x.reads(2, 1);
        x.reads(3, 2);
        costs("two read 1, one 2", x, 20, 10, 20, 20, 20, 20, 20, 20);
        ways("two read 1, one 2", x, 1, 1, 2, 1, 1, 1, 1, 1);
        x.slip(1, 2, 99);
        // of 1: BOOK 0 is 1 for 99, 2 for 99 + 20, any of the six others for 10 + 30
        costs("1 to 2 is dear", x, 30, 40, 20, 30, 30, 30, 30, 30);
        ways("1 to 2 is dear", x, 2, 6, 1, 2, 2, 2, 2, 2);
        x.reads(0, 1);
        costs("BOOK 0 reads 1", x, 109, 99, 109, 109, 109, 109, 109, 109);
        ways("BOOK 0 reads 1", x, 1, 1, 1, 1, 1, 1, 1, 1);
    }

    private static void costsAtTheMost() {
        PotBook x = books(-1, -1, -1, -1, -1, -1, -1, -1, -1, -1, -1, -1);
        for (int book = 0; book < 12; book++) {
            x.reads(book, 1);
        }
        x.slip(0, 1, 99);
        Due.same("25: twelve SLIPS for 99 each", x.cost(0), 1188);
        Due.same("25: twelve for nothing", x.cost(1), 0);
        Due.same("26: in one way", x.ways(0), 1);
    }

    /** WAYS: in how many ways so. */
    private static void waysAreCounted() {
        PotBook x = books(-1, 0, 1);
        x.reads(2, 0);
        ways("a row of three", x, 1, 3, 3, 3, 3, 3, 3, 3);
        x.slip(1, 0, 0);
        // of 1 for nothing, by either BOOK; of others for 10 to 1 or to 0, then for nothing
        costs("1 to 0 for nothing", x, 0, 0, 10, 10, 10, 10, 10, 10);
        ways("1 to 0 for nothing", x, 1, 3, 6, 6, 6, 6, 6, 6);
        x.slip(0, 1, 0);
        // of 2: BOOK 0 is 0 or 1 and so is BOOK 1, or BOOK 0 is 2 and BOOK 1 0, 1 or 2
        ways("both ways for nothing", x, 4, 4, 7, 7, 7, 7, 7, 7);
    }

    private static void waysAtTheMost() {
        PotBook x = books(-1, -1, -1, -1, -1, -1, -1, -1, -1, -1, -1, -1);
        for (int one = 0; one < 8; one++) {
            for (int other = 0; other < 8; other++) {
                x.slip(one, other, 0);
            }
        }
        for (int word = 0; word < 8; word++) {
            Due.same("26: 8 in each of twelve", x.ways(word), 68719476736L);
            Due.same("25: for nothing", x.cost(word), 0);
        }
        Due.same("28: all", x.could(11), 255);
        Due.same("28: all", x.could(0), 255);
        for (int book = 0; book < 12; book++) {
            x.reads(book, 7);
        }
        Due.same("26: one in each", x.ways(0), 1);
    }

    /** STOOD first: the WORD with the least COST (of several the lowest). */
    private static void stoodFirst() {
        for (int one = 0; one < 8; one++) {
            for (int other = 0; other < 8; other++) {
                PotBook x = books(-1, -1);
                x.reads(0, one);
                x.reads(1, other);
                Due.same("27: " + one + " and " + other, x.first(), Math.min(one, other));
                x.slip(one, other, 9);
                Due.same("27: cheaper from " + one, x.first(), one);
            }
        }
        PotBook x = books(-1);
        x.reads(0, 7);
        Due.same("27: the last WORD", x.first(), 7);
        x.slip(6, 7, 0);
        Due.same("27: the lower one for as little", x.first(), 6);
    }

    /** COULD have READ: WORDS of a BOOK in some way of that least COST. */
    private static void couldHaveRead() {
        PotBook x = books(-1, 0, 0, 1);
        Due.same("28: all lost", x.could(0) + 256 * x.could(3), 255 * 257);
        x.reads(1, 2);
        x.reads(2, 5);
        // of the FIRST 2 or 5 for 10
        Due.same("28: BOOK 0 by 2 or by 5", x.could(0), 36);
        Due.same("28: BOOK 1 as it is told", x.could(1), 4);
        Due.same("28: BOOK 2 as it is told", x.could(2), 32);
        Due.same("28: BOOK 3 as BOOK 1", x.could(3), 4);
        x.slip(2, 4, 0);
        Due.same("28: BOOK 3 for nothing, too", x.could(3), 20);
        x.slip(4, 2, 0);
        x.slip(4, 5, 3);
        // of the FIRST 4, or 2 and BOOK 0 4, for 3
        Due.same("25: of 4", x.cost(4), 3);
        Due.same("25: of 2", x.cost(2), 3);
        Due.same("28: BOOK 0 is 4", x.could(0), 16);
        x.reads(0, 2);
        Due.same("28: told", x.could(0), 4);
    }

    private static void couldOfTheLeastAlone() {
        PotBook x = books(-1, -1);
        x.reads(0, 1);
        // BOOK 1 lost is as the FIRST, that is 1
        Due.same("28: not what costs more", x.could(1), 2);
        x.slip(1, 6, 1);
        Due.same("28: not for 1", x.could(1), 2);
        x.slip(1, 6, 0);
        Due.same("28: for nothing", x.could(1), 66);
        x.slip(3, 1, 0);
        Due.same("28: by 3 in the FIRST, too", x.could(1), 74);
    }
}
