/** What the tests of the promises share: a count of wrong answers, and tapes told as texts. */
final class Due {
    static final int NONE = CurrentFarms.NONE, BAD = CurrentFarms.BAD;
    static final int STATE = CurrentFarms.STATE, FULL = CurrentFarms.FULL;
    static final int[] OFF = {Integer.MIN_VALUE, -1000000, -7, -6, Integer.MAX_VALUE};

    private static int wrong = 0;
    private static int asked = 0;

    private Due() { }

    static void due(String call, long got, long want) {
        asked++;
        if (got == want) return;
        wrong++;
        System.out.println(call + " answered " + got + ", due is " + want);
    }

    /** Feeds a text to THE TAPE, eight bytes at a time. */
    static CurrentFarms feed(CurrentFarms x, String text) {
        for (int i = 0; i < text.length(); i += 8) {
            int n = Math.min(8, text.length() - i);
            long w = 0;
            for (int j = i; j < i + n; j++) w = w << 8 | text.charAt(j);
            x.feed(w, n);
        }
        return x;
    }

    /** Makes a text a RULE: what text() answered. */
    static int rule(CurrentFarms x, int month, String text) {
        return feed(x, text).text(month);
    }

    /** Makes a text that must have no fault a RULE. */
    static void good(CurrentFarms x, int month, String text) {
        int rules = x.count(2);
        due("'" + text + "'", rule(x, month, text), rules);
    }

    static int tried(CurrentFarms x, int what, String text) {
        return feed(x, text).tried(what);
    }

    /** All counts of an object in one row, to see that a refused call changed none. */
    static String counts(CurrentFarms x) {
        StringBuilder all = new StringBuilder();
        for (int i = 0; i < 10; i++) all.append(x.count(i)).append(' ');
        return all.toString();
    }

    static void same(String call, String got, String want) {
        due(call + ": " + got + " for " + want, got.equals(want) ? 1 : 0, 1);
    }

    static void end(String of) {
        System.out.println(of + ": " + asked + " answers, " + wrong + " not as due");
        if (wrong != 0) System.exit(1);
    }
}
