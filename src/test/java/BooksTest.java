/** Promises 22 to 28: BOOKS, SLIPS, and the WORD that stood first. */
public final class BooksTest {
    public static void main(String[] args) {
        books();
        refused();
        costs();
        slipsOneWay();
        ties();
        manyWays();
        Due.close("BooksTest");
    }

    private static void books() {
        PotBook x = new PotBook();
        Due.same("22: no such one", x.book(0), -1);
        Due.same("22: no such one", x.book(-2), -1);
        Due.same("22: of the FIRST", x.book(-1), 0);
        Due.same("22: not of itself", x.book(1), -1);
        Due.same("22: of a BOOK", x.book(0), 1);
        for (int k = 2; k < 12; k++) {
            Due.same("22: more", x.book(k % 2 == 0 ? -1 : k - 1), k);
        }
        Due.same("22: there are twelve", x.book(-1), -1);
        Due.same("22: there are twelve", x.book(3), -1);
        Due.same("22: count", x.count(5), 12);
    }

    private static void refused() {
        PotBook x = new PotBook();
        x.book(-1);
        x.reads(0, 3);
        Due.is("23: alike", x.slip(3, 3, 4), false);
        Due.is("23: no such WORD", x.slip(8, 3, 4), false);
        Due.is("23: no such WORD", x.slip(3, 8, 4), false);
        Due.is("23: no such WORD", x.slip(-1, 3, 4), false);
        Due.is("23: no such WORD", x.slip(3, -1, 4), false);
        Due.is("23: too little", x.slip(0, 3, -1), false);
        Due.is("23: too much", x.slip(0, 3, 100), false);
        Due.same("23: refused changes nothing", x.cost(0), 10);
        Due.is("24: no such BOOK", x.reads(1, 3), false);
        Due.is("24: no such BOOK", x.reads(-1, 3), false);
        Due.is("24: no such WORD", x.reads(0, 8), false);
        Due.is("24: no such WORD", x.reads(0, -2), false);
        Due.same("24: refused changes nothing", x.first(), 3);
        Due.same("25: no such WORD", x.cost(8), -1);
        Due.same("25: no such WORD", x.cost(-1), -1);
        Due.same("26: no such WORD", x.ways(8), -1);
        Due.same("26: no such WORD", x.ways(-1), -1);
        Due.same("28: no such BOOK", x.could(1), -1);
        Due.same("28: no such BOOK", x.could(-1), -1);
        Due.is("24: lost again", x.reads(0, -1), true);
        Due.same("24: lost again", x.first(), 0);
        Due.is("23: the bounds", x.slip(0, 7, 99), true);
        Due.is("23: the bounds", x.slip(7, 0, 0), true);
        Due.is("24: the bounds", x.reads(0, 7), true);
        Due.same("25: the bounds", x.cost(0), 99);
        x.reads(0, 0);
        Due.same("25: the bounds", x.cost(7), 0);
    }

    /** The FIRST to 0; 0 to 1 and 2; 1 to 3. */
    private static PotBook four() {
        PotBook x = new PotBook();
        x.book(-1);
        x.book(0);
        x.book(0);
        x.book(1);
        return x;
    }

    private static void costs() {
        PotBook x = four();
        Due.same("25: all lost", x.cost(5), 0);
        Due.same("26: all lost", x.ways(5), 1);
        Due.same("27: of several the lowest", x.first(), 0);
        Due.same("28: all lost", x.could(3), 255);
        x.reads(3, 2);
        x.reads(2, 4);
        Due.same("25: one SLIP", x.cost(2), 10);
        Due.same("25: one SLIP", x.cost(4), 10);
        Due.same("25: two SLIPS", x.cost(0), 20);
        Due.same("26: where BOOK 2 slips", x.ways(2), 1);
        Due.same("26: in BOOK 1, in BOOK 3", x.ways(4), 2);
        Due.same("26: 2 2, 4 4, 4 2, 0 0, 0 2", x.ways(0), 5);
        Due.same("27: the lowest of two", x.first(), 2);
        Due.same("28: by all WORDS that cost as little", x.could(0), 20);
        Due.same("28: 1", x.could(1), 20);
        Due.same("28: told", x.could(2), 16);
        Due.same("28: told", x.could(3), 4);
        x.reads(0, 4);
        Due.same("25: BOOK 0 told", x.cost(4), 10);
        Due.same("25: BOOK 0 told", x.cost(2), 20);
        Due.same("27: BOOK 0 told", x.first(), 4);
        Due.same("28: BOOK 0 told", x.could(0), 16);
        Due.same("28: BOOK 1 in some way", x.could(1), 20);
    }

    private static void slipsOneWay() {
        PotBook x = four();
        x.reads(3, 2);
        x.reads(2, 4);
        Due.is("23: told", x.slip(4, 2, 3), true);
        Due.same("25: from 4 to 2", x.cost(4), 3);
        Due.same("25: not from 2 to 4", x.cost(2), 10);
        Due.same("27: less", x.first(), 4);
        Due.same("28: less", x.could(0), 16);
        x.slip(0, 4, 1);
        x.slip(0, 2, 1);
        Due.same("25: twice from 0", x.cost(0), 2);
        Due.same("27: still less", x.first(), 0);
        Due.same("26: from BOOK 0 or from BOOK 1", x.ways(0), 2);
        Due.same("28: 0 alone", x.could(0), 1);
        Due.same("28: 0 or 2", x.could(1), 5);
    }

    private static void ties() {
        PotBook x = new PotBook();
        x.book(-1);
        x.book(-1);
        x.reads(0, 6);
        x.reads(1, 1);
        Due.same("27: of several the lowest", x.first(), 1);
        Due.same("25: two of the FIRST", x.cost(6), 10);
        Due.same("25: two of the FIRST", x.cost(0), 20);
        Due.same("26: told ones", x.ways(0), 1);
        x.book(-1);
        Due.same("28: as the FIRST could", x.could(2), 66);
        PotBook y = new PotBook();
        y.book(-1);
        y.book(-1);
        y.reads(1, 1);
        Due.same("28: not what costs nothing itself", y.could(0), 2);
        y.book(-1);
        y.reads(2, 6);
        Due.same("28: by either", y.could(0), 66);
    }

    private static void manyWays() {
        PotBook x = new PotBook();
        for (int k = 0; k < 12; k++) {
            x.book(-1);
        }
        for (int one = 0; one < 8; one++) {
            for (int other = 0; other < 8; other++) {
                x.slip(one, other, 0);
            }
        }
        Due.same("26: 8 in each of twelve", x.ways(7), 68719476736L);
        Due.same("25: for nothing", x.cost(7), 0);
        Due.same("28: all", x.could(11), 255);
    }
}
