/** What the tests share: answers held against those that are due, and texts fed to a TAPE. */
final class Due {
    private static int asked;
    private static int wrong;

    private Due() {
    }

    static void same(String call, long got, long want) {
        asked++;
        if (got != want) {
            wrong++;
            System.out.println(call + " answered " + got + ", due is " + want);
        }
    }

    static void is(String call, boolean got, boolean want) {
        same(call, got ? 1 : 0, want ? 1 : 0);
    }

    static void pass() {
        asked++;
    }

    static void fail() {
        wrong++;
    }

    /** Ends the test; the exit code is 1 if an answer was not the one that is due. */
    static void close(String test) {
        System.out.println(test + ": " + (wrong == 0 ? "all as due (" + asked + " answers)" : wrong + " not as due"));
        if (wrong > 0) {
            System.exit(1);
        }
    }

    static int feed(PotBook x, String text) {
        int answer = x.count(7);
        for (int at = 0; at < text.length(); at += 20) {
            answer = x.feed(word(text, at), word(text, at + 4), word(text, at + 8), word(text, at + 12),
                    word(text, at + 16));
        }
        return answer;
    }

    private static int word(String text, int at) {
        int v = 0;
        for (int k = at; k < at + 4; k++) {
            v = v << 8 | (k < text.length() ? text.charAt(k) & 255 : 0);
        }
        return v;
    }

    static int fault(PotBook x, String text, int sort) {
        x.end(0);
        feed(x, text);
        return x.fault(sort);
    }

    static int tell(PotBook x, String text, int sort) {
        x.end(0);
        feed(x, text);
        return x.text(sort);
    }
}
