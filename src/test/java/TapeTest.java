/** Promises 1 to 5: a new object, the TAPE, FAULTS, what a TAPE is told as. */
public final class TapeTest {
    public static void main(String[] args) {
        newObject();
        feeding();
        ending();
        pageFaults();
        pageNumberFaults();
        pageActFaults();
        lawFaults();
        lawConditionFaults();
        lawDepthFaults();
        telling();
        tellingTooMany();
        Due.close("TapeTest");
    }

    private static void newObject() {
        PotBook x = new PotBook();
        for (int what = 0; what < 8; what++) {
            Due.same("1: count(" + what + ")", x.count(what), 0);
        }
        Due.same("1: count(8)", x.count(8), 6);
        Due.same("1: fault(0)", x.fault(0), 0);
        Due.same("1: fault(1)", x.fault(1), 0);
        Due.same("1: NONE", PotBook.NONE, -1);
        Due.same("1: HIDDEN", PotBook.HIDDEN, -10000000);
        Due.same("1: first()", x.first(), 0);
        Due.same("1: tree()", x.tree(), 0);
    }

    private static void feeding() {
        PotBook x = new PotBook();
        Due.same("2: all bytes", x.feed(0x61626364, 0x61626364, -1, 0x01010101, 0x7f7f7f7f), 20);
        Due.same("2: bytes of 0 left out", x.feed(0x61000062, 0x00630000, 0, 0, 0x00000064), 24);
        Due.same("2: none", x.feed(0, 0, 0, 0, 0), 24);
        for (int k = 0; k < 4; k++) {
            Due.same("2: more", x.feed(-1, -1, -1, -1, -1), 44 + 20 * k);
        }
        Due.same("2: 121", x.feed(-1, -1, -1, -1, 0x00ff0000), -1);
        Due.same("2: refused changes nothing", x.count(7), 104);
        Due.same("2: 120", x.feed(-1, -1, -1, -1, 0), 120);
        Due.same("2: one more", x.feed(0, 0, 0, 0, 1), -1);
        Due.same("2: none more", x.feed(0, 0, 0, 0, 0), 120);
        order();
    }

    private static void order() {
        PotBook x = new PotBook();
        x.thing(1, 1, 1, false, 1, 12);
        Due.same("2: the highest first", x.feed('a' << 24 | '9', ';' << 8 | 'B', 0, 0, '8'), 5);
        Due.same("2: a9;B8 is one", x.fault(0), -1);
        x.end(0);
        x.feed('9' << 24 | 'a', 0, 0, 0, 0);
        Due.same("2: 9a is none", x.fault(0), 0);
        x.end(0);
        x.feed(0xe1000000, 0, 0, 0, 0);
        Due.same("2: a byte above 127", x.fault(0), 0);
    }

    private static void ending() {
        PotBook x = new PotBook();
        x.thing(1, 1, 1, false, 1, 12);
        Due.feed(x, "a5;B2X");
        Due.is("3: beyond", x.end(7), false);
        Due.is("3: below 0", x.end(-1), false);
        Due.is("3: far below", x.end(Integer.MIN_VALUE), false);
        Due.same("3: refused changes nothing", x.count(7), 6);
        Due.is("3: all", x.end(6), true);
        Due.same("3: all", x.fault(0), 5);
        Due.is("3: five", x.end(5), true);
        Due.same("3: the first stay", x.fault(0), -1);
        Due.same("3: five", x.count(7), 5);
        Due.is("3: none", x.end(0), true);
        Due.same("3: none", x.count(7), 0);
        Due.is("3: not more than there are", x.end(1), false);
    }

    /** A stroke marks the place of the FAULT; at the end: the text ends too early; none: no FAULT. */
    private static void fault(PotBook x, int sort, String marked) {
        int at = marked.indexOf('~');
        String text = at < 0 ? marked : marked.substring(0, at) + marked.substring(at + 1);
        Due.same("4: " + marked, Due.fault(x, text, sort), at);
    }

    private static PotBook nine() {
        PotBook x = new PotBook();
        for (int k = 0; k < 10; k++) {
            x.thing(1, 1, 1, false, 1, 12);
        }
        return x;
    }

    private static void pageFaults() {
        PotBook x = nine();
        String[] texts = {"~", " ~", "~,", "~A", "~1", "~;B", "a", " a ", "a,b", " a , b ", "j", "~k", "~l", "~`", "a~a",
            "a,~a", "a,b,~b", "a, ~a", "a,~", "a, ~", "a,~;B", "a,~1", "a,~k", "a~-", "a~-1", "a~:", "a~\t", "a,b,c,d,e,f,g,h",
            "a,b,c,d,e,f,g,h,~i", "a,b,c,d,e,f,g,h,~a", "a,b,c,d,e,f,g,h,~", "a,b,c,d,e,f,g,h, ~i", "a,b,c,d,e,f,g,h;B",
            "a1,b2-3,c ; B", "a~\u00e1", "~\u00e1"};
        for (String text : texts) {
            fault(x, 0, text);
        }
        Due.same("4: no such sort", x.fault(2), -2);
        Due.same("4: no such sort", x.fault(-1), -2);
        PotBook y = new PotBook();
        y.thing(1, 1, 1, false, 1, 12);
        fault(y, 0, "~b");
        fault(y, 0, "a,~b");
        y.thing(1, 1, 1, false, 1, 12);
        fault(y, 0, "a,b");
    }

    private static void pageNumberFaults() {
        PotBook x = nine();
        String[] texts = {"a1", "a99", "a~0", "a0~0", "a00~0", "a05", "a~0,b", "a0~0 ", "a10~0", "a12~3-4", "a00~5", "a99~9",
            "a5-5", "a5-9", "a5-~4", "a5-~4,b", "a5-~0", "a15-1~4", "a15-~1", "a15-~2 ", "a15-15", "a15-17", "a50-00~5",
            "a5-10~0", "a50-1~0", "a50-10~0", "a1-~", "a1 - ~", "a1-~,", "a1-~-", "a1-2~-3", "a1 ~2", "a1 -2~ 3".replace("~ ", " ~"),
            "a 1 - 2 , b", "a01-02", "a1~B", "a1;B", "a1-2;B", "a~0-5", "a1-~b", "a~0;"};
        for (String text : texts) {
            fault(x, 0, text);
        }
    }

    private static void pageActFaults() {
        PotBook x = nine();
        String[] texts = {"a;~", "a; ~", "a;~X", "a;~b", "a;~1", "a;B", "a;BRTS", "a;B9R1", "a;B~0", "a;B1~2", "a;B1 ~2",
            "a;B 2 R 3 ", "a;B~,", "a;B~;", "a;B2~;", "a;B ~b", "a;BRTSBRTS", "a;BRTSBRTS~B", "a;BRTSBRTS9", "a;BRTSBRTS9~B",
            "a;BRTSBRTS ~T", "a;BRTSBRTS~X", "a;BRTSBRTS9~9", "a;B9R9T9S9B9R9T9S9", "a;~;", "a;~,b", "a;~U", "a;B~-",
            "a;BRTSBRTS "};
        for (String text : texts) {
            fault(x, 0, text);
        }
    }

    private static void lawFaults() {
        PotBook x = new PotBook();
        String[] texts = {"~", " ~", "y~", "y ~", "~w", "~:", "~Y:w", "y~;", "y~w", "y:~", "y:~;", "y:w", " y : w ", "y:w;~",
            "y:w; ~", "y:w;~w", "y:w;y:s", "y:w ~w", "y:w~s", "y:s+f*n-b/r+t*u-k", "y:~a", "y:~y", "y:~x", "y:~+", "y:w+~",
            "y:w+~+", "y:w+~;", "y:w~?1", "y:w~&", "y:w~|", "y:w~)", "y:w~]", "y:w~!", "y:w~(", "y:w~[", "y:0", "y:9999",
            "y:0000", "y:1234~5", "y:0000~0", "y:1 ~2", "y:12~w", "y:w~1", "y:[w]", "y:[w", "y:[~]", "y:[w~)", "y:[w~=1",
            "y:[w+1]*2", "y:[w]~[", "y:[w]~]", "y:-".replace("-", "~-"), "y:w*~*", "y:w*[s-1", "y:w~,", "y:w\u00e9".replace("\u00e9", "~\u00e9")};
        for (String text : texts) {
            String marked = text.equals("y:[w") || text.equals("y:w*[s-1") ? text + "~" : text;
            fault(x, 1, marked);
        }
    }

    private static void lawConditionFaults() {
        PotBook x = new PotBook();
        String[] texts = {"y:w=1?2", "y:w<1?2", "y:w>1?2", "y:w=1~", "y:w=~", "y:w=1~;", "y:w=1?~", "y:w=1?~;", "y:w=1~=2",
            "y:w=1?2~=3", "y:w=1?2~?3", "y:w=1?2~&", "y:w=1?~!w=1", "y:w=1?~(", "y:w=~!", "y:w=~(", "y:w=1&s<2|f>3?4",
            "y:w=1&~", "y:w=1&~&", "y:w=1|~", "y:w=1&s~?2", "y:w=1&s~;", "y:w=1&s~", "y:w=1&s~|", "y:w=1~)", "y:!w=1?2",
            "y:!~", "y:!~?", "y:!w~", "y:!w~;", "y:!w~?", "y:!w~&", "y:!!w=1?2", "y:!(w=1)?2", "y:(w=1)?2", "y:(w=1|s=2)&f=3?4",
            "y:(w~)", "y:(w=1~", "y:(~)", "y:(w=1)~;", "y:(w=1)~", "y:(w=1)~=2", "y:(w=1)~+2", "y:(w=1)~(", "y:(w=1)~)",
            "y:(w=1~?", "y:(w=1~]", "y:[w=1".replace("=", "~="), "y:[w]=1?2", "y:[w]+s=1*[2]?[3]", "y:((w=1)&s=1)?2",
            "y : ( w = 1 ) ? 2 ; y : 3", "y:w=1?2;y:3", "y:w=1?2;~3", "y:(w=1)?2;y:!w=1?3", "y:w+1=2+3&~?", "y:w=[1]~[",
            "y:w=1!".replace("!", "~!"), "y:w=1 ?2 ~?"};
        for (String text : texts) {
            fault(x, 1, text);
        }
    }

    private static void lawDepthFaults() {
        PotBook x = new PotBook();
        String[] texts = {"y:[[[[[[w]]]]]]", "y:[[[[[[~[w", "y:!!!!!!w=1?2", "y:!!!!!!~!w=1?2", "y:((((((w=1))))))?2",
            "y:((((((~(w", "y:!(!(!(w=1)))?2", "y:!(!(!(~[w", "y:!(!(!(w=~[1", "y:!(!(!(~!w", "y:!(!(!([w".replace("([", "(~["),
            "y:!(!(!w=[1]))&[[[[[[w]]]]]]=1?2", "y:!!!!!!w=1&!!!!!!w=1|[[[[[[1]]]]]]=w?2", "y:!!!!!!w=1&!!!!!!~!", "y:!!!!!!w=~[",
            "y:!!!!!!w+~[", "y:!!!!!!~[", "y:!!!!!!~(", "y:!!!!!([w]=1)?2".replace("([", "(~["), "y:!!!!![w]=1?2",
            "y:[[[[[[w]]]]]]+[[[[[[w]]]]]]", "y:[[[[[[w]]]]]+[[[[[~[", "y:((((((w=1))))))?[[[[[[1]]]]]];y:[[[[[[1]]]]]]",
            "y:(((((([".replace("([", "(~["), "y:(((((([w".replace("([", "(~[")};
        for (String text : texts) {
            fault(x, 1, text);
        }
    }

    private static void telling() {
        PotBook x = nine();
        Due.same("5: no page", Due.tell(x, "y:w", 0), -1);
        Due.same("5: refused it stays", x.count(7), 3);
        Due.same("5: no such sort", x.text(2), -1);
        Due.same("5: no such sort", x.text(-1), -1);
        Due.same("5: stays", x.count(7), 3);
        Due.same("5: a LAW", x.text(1), 0);
        Due.same("5: empty then", x.count(7), 0);
        Due.same("5: empty is none", x.text(1), -1);
        Due.same("5: empty is none", x.text(0), -1);
        Due.same("5: a PAGE", Due.tell(x, "a1,b", 0), 0);
        Due.same("5: empty then", x.count(7), 0);
        Due.same("5: another", Due.tell(x, "c", 0), 1);
        Due.same("5: another LAW", Due.tell(x, "y:1", 1), 1);
        Due.same("5: no LAW", Due.tell(x, "c", 1), -1);
        Due.same("5: PAGES", x.count(0), 2);
        Due.same("5: LAWS", x.count(1), 2);
        Due.same("5: a FAULT changes no PAGE", Due.tell(x, "d1,e2;X", 0), -1);
        Due.same("5: a FAULT changes no PAGE", x.page(1, 0), 4);
        Due.same("5: nor the next one", Due.tell(x, "d1,e;B2R3T4S5X", 0), -1);
        Due.same("5: nor the next one", Due.tell(x, "f2;B", 0), 2);
        Due.same("5: its THINGS", x.page(2, 0), 32);
        Due.same("5: its LEFT OUT", x.page(2, 2), 0);
        Due.same("5: its ACTS", x.page(2, 1), 1);
        Due.same("5: its ACTS", Due.tell(x, "y:b*1000+r*100+t*10+u", 1), 2);
        Due.same("5: its ACTS", x.worth(2, 0, 2), 1000);
        Due.same("5: nor the next LAW", Due.tell(x, "y:n;y:", 1), -1);
        Due.same("5: nor the next LAW", Due.tell(x, "y:k=1?4", 1), 3);
        Due.same("5: nor the next LAW", x.worth(2, 0, 3), 0);
        Due.same("5: nor the next PAGE", Due.tell(x, "f2;B2R3T4S5X", 0), -1);
        Due.same("5: nor the next PAGE", Due.tell(x, "f2", 0), 3);
        Due.same("5: without ACTS", x.page(3, 1), 0);
        Due.same("5: without ACTS", x.worth(3, 0, 2), 0);
    }

    private static void tellingTooMany() {
        PotBook x = nine();
        for (int k = 0; k < 16; k++) {
            Due.same("5: a PAGE", Due.tell(x, "a" + (k + 1), 0), k);
        }
        Due.same("5: seventeen", Due.tell(x, "b5", 0), -1);
        Due.same("5: it stays", x.count(7), 2);
        Due.same("4: it is none the less", x.fault(0), -1);
        Due.same("4: it is none the less", Due.fault(x, "b5,c;BRTSBRTSB", 0), 13);
        Due.same("5: the last one stands", x.page(15, 0), 1);
        Due.same("5: sixteen", x.count(0), 16);
        for (int k = 0; k < 6; k++) {
            Due.same("5: a LAW", Due.tell(x, "y:n+" + k, 1), k);
        }
        Due.same("5: a seventh", Due.tell(x, "y:w", 1), -1);
        Due.same("5: it stays", x.count(7), 3);
        Due.same("4: it is none the less", x.fault(1), -1);
        Due.same("5: the last one stands", x.worth(0, 0, 5), 6);
        Due.same("5: six", x.count(1), 6);
    }
}
