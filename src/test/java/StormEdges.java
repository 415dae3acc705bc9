/** ==== 7 and THE IMAGE, sentence by sentence: each limit from inside and from outside, empty and full. */
public final class StormEdges {
    private static final int SIGNED = 0, WAVERING = 1, SERVED = 2, CUT = 3, TAKEN = 4;

    public static void main(String[] args) {
        noBreaks();
        breaksAre6AtMost();
        hoursFrom1To20();
        stretchesByWhichACellHangs();
        darkTillAllAreMended();
        whoIsDark();
        oneBehindTheOther();
        theLeastRow();
        theOrderOf6();
        mendedAll();
        theFirmsWay();
        takeIs0();
        notGone();
        lacksWhenGone();
        triedFromNowOn();
        triedOfNothing();
        triedOneByOne();
        triedBills();
        noImage();
        theImageHoldsAll();
        imageOfANewObject();
        counts();
        Due.end("edges of the storms");
    }

    /** A line to the right of THE HOUSE; SERVED FARMS told as CELL and LOAD. */
    private static CurrentFarms row(int stretches, int... cellsAndLoads) {
        CurrentFarms x = new CurrentFarms();
        for (int i = 0; i < stretches; i++) x.line(i, i + 1);
        for (int i = 0; i < cellsAndLoads.length; i += 2) {
            x.farm(cellsAndLoads[i], cellsAndLoads[i + 1]);
            x.sign(i / 2, SERVED, 0, 0);
        }
        return x;
    }

    private static void orderIs(String what, CurrentFarms x, int... cells) {
        for (int i = 0; i < cells.length; i++) Due.due(what + ", break " + i, x.order(i), cells[i]);
        Due.due(what + ", none more", x.order(cells.length), Due.NONE);
    }

    private static void noBreaks() {
        CurrentFarms x = row(3, 3, 50);
        Due.due("breaks", x.count(6), 0);
        Due.due("no milk is lost", x.order(-1), 0);
        orderIs("no break", x);
        Due.due("order -2", x.order(-2), Due.NONE);
        Due.due("nothing to mend", x.fix(), 0);
        Due.due("a new object", new CurrentFarms().order(-1), 0);
    }

    /** "BREAKS: .. 6 at most" */
    private static void breaksAre6AtMost() {
        CurrentFarms x = row(7, 7, 1);
        for (int c = 1; c <= 6; c++) {
            Due.due("break", x.storm(c, 1), c);
            Due.due("breaks", x.count(6), c);
            Due.due("hours", x.order(-1), c);
        }
        Due.due("full", x.storm(7, 1), Due.FULL);
        Due.due("down ahead of full", x.storm(6, 1), Due.STATE);
        Due.due("six", x.count(6), 6);
        Due.due("six hours", x.order(-1), 6);
        orderIs("as told", x, 1, 2, 3, 4, 5, 6);
        x.fix();
        Due.due("room again", x.storm(7, 20), 1);
        orderIs("the new one", x, 7);
    }

    /** "each taking so many HOURS (1 .. 20) to mend" */
    private static void hoursFrom1To20() {
        CurrentFarms x = row(1, 1, 50);
        for (int off : new int[] {0, 21, -1, Integer.MIN_VALUE, Integer.MAX_VALUE}) {
            Due.due("hours " + off, x.storm(1, off), Due.BAD);
        }
        for (int h : new int[] {1, 20}) {
            Due.due("hours " + h, x.storm(1, h), 1);
            Due.due("dark for " + h, x.order(-1), 50 * h);
            x.fix();
        }
    }

    /** "A BREAK of the STRETCH by which a CELL hangs on THE LINE"; "STATE: it doesn't hang on it, it is down" */
    private static void stretchesByWhichACellHangs() {
        CurrentFarms x = row(2, 2, 5);
        Due.due("the house", x.storm(0, 1), Due.STATE);
        Due.due("off the line", x.storm(3, 1), Due.STATE);
        Due.due("beside the house", x.storm(8, 1), Due.STATE);
        Due.due("hangs", x.storm(2, 1), 1);
        Due.due("down", x.storm(2, 20), Due.STATE);
        Due.due("its hours stay", x.order(-1), 5);
        Due.due("another", x.storm(1, 1), 2);
        x.fix();
        Due.due("mended, it may break again", x.storm(2, 20), 1);
        x.clear();
        Due.due("off the line", x.storm(2, 20), Due.STATE);
    }

    /** "dark till all BREAKS on its way are mended" */
    private static void darkTillAllAreMended() {
        CurrentFarms x = row(4, 0, 50, 1, 1, 2, 10, 4, 20);
        x.storm(2, 3);
        Due.due("the cells behind it, and its own", x.order(-1), 3 * 10 + 3 * 20);
        x.storm(4, 5);
        Due.due("2 first: 3, and 8 of the last", x.order(-1), 3 * 10 + 8 * 20);
        x.line(0, 8);
        x.storm(8, 20);
        Due.due("a branch where nobody is", x.order(-1), 3 * 10 + 8 * 20);
        orderIs("it is the last", x, 2, 4, 8);
        x.storm(1, 1);
        Due.due("1 first", x.order(-1), 1 * 1 + 4 * 10 + 9 * 20);
        orderIs("1 first", x, 1, 2, 4, 8);
    }

    /** "A FARM on THE LINE (SERVED or OWING NOW)" */
    private static void whoIsDark() {
        for (int what = SIGNED; what <= TAKEN; what++) {
            CurrentFarms x = row(2);
            x.farm(2, 7);
            x.farm(3, 50);
            x.month(1);
            x.sign(0, what, 1, 1);
            x.sign(1, SERVED, 0, 0);
            x.storm(1, 2);
            Due.due("one that is " + what, x.order(-1), what == SERVED ? 14 : 0);
            x.pay(0, 1, 9999);
            Due.due("one that owes nothing", x.order(-1), what == SERVED ? 14 : 0);
            x.line(2, 3);
            Due.due("one more on the line", x.order(-1), what == SERVED ? 114 : 100);
        }
    }

    /** "one behind the other"; "MILK lost: HOURS that it is dark times its LOAD" */
    private static void oneBehindTheOther() {
        CurrentFarms x = row(0, 1, 10, 8, 11);
        x.line(0, 1);
        x.line(0, 8);
        x.storm(1, 10);
        x.storm(8, 11);
        Due.due("11 and 10 hours: 10 times 10, 21 times 11 or 11 times 11, 21 times 10", x.order(-1), 331);
        orderIs("as told, where it is the same", x, 1, 8);
        CurrentFarms y = row(0, 1, 10, 8, 11);
        y.line(0, 1);
        y.line(0, 8);
        y.storm(8, 11);
        y.storm(1, 10);
        orderIs("as told", y, 8, 1);
        y.farm(8, 1);
        y.sign(2, SERVED, 0, 0);
        orderIs("still", y, 8, 1);
        y.farm(1, 2);
        y.sign(3, SERVED, 0, 0);
        orderIs("1 now loses more", y, 1, 8);
    }

    /** "THE ORDER: that by which least MILK is lost; of several the least row (BREAKS as they were told)" */
    private static void theLeastRow() {
        CurrentFarms x = row(3, 3, 10);
        x.storm(3, 5);
        x.storm(1, 2);
        x.storm(2, 7);
        Due.due("any row of those on its way", x.order(-1), 140);
        orderIs("as told", x, 3, 1, 2);
        x.line(0, 8);
        x.storm(8, 1);
        orderIs("a branch where nobody is comes last", x, 3, 1, 2, 8);
        x.farm(8, 1);
        x.sign(1, SERVED, 0, 0);
        Due.due("8 first: 1, and 15 times 10", x.order(-1), 151);
        orderIs("8 first", x, 8, 3, 1, 2);
        CurrentFarms y = row(0);
        y.line(0, 8);
        y.line(0, 1);
        y.storm(8, 1);
        y.storm(1, 1);
        orderIs("nobody is dark", y, 8, 1);
        y.farm(1, 1);
        y.sign(0, SERVED, 0, 0);
        orderIs("one", y, 1, 8);
    }

    private static void theOrderOf6() {
        CurrentFarms x = new CurrentFarms();
        x.house(9);
        int[][] stretches = {{9, 1}, {9, 8}, {9, 10}, {9, 17}, {17, 18}, {10, 11}};
        for (int[] s : stretches) x.line(s[0], s[1]);
        int[] cells = {1, 8, 10, 17, 18, 11, 18, 1, 11, 8};
        for (int i = 0; i < 10; i++) {
            x.farm(cells[i], 50);
            x.sign(i, SERVED, 0, 0);
        }
        for (int[] s : stretches) x.storm(s[1], 20);
        Due.due("four branches, two of them twice: 20 for 100, 40 for 100, 60 for 50, 80 for 100, 100 for 50, 120 for 100",
            x.order(-1), 20 * 100 + 40 * 100 + 60 * 50 + 80 * 100 + 100 * 50 + 120 * 100);
        orderIs("by loads", x, 1, 8, 10, 11, 17, 18);
        CurrentFarms y = row(6, 6, 50, 6, 50, 6, 50, 6, 50, 6, 50, 6, 50, 6, 50, 6, 50, 6, 50, 6, 50);
        for (int c = 6; c > 0; c--) y.storm(c, 20);
        Due.due("all the milk that can be lost", y.order(-1), 60000);
        orderIs("as told", y, 6, 5, 4, 3, 2, 1);
        CurrentFarms z = row(5);
        z.line(0, 8);
        int[] told = {1, 2, 3, 4, 5, 8};
        for (int i = 0; i < 6; i++) z.storm(told[i], 6 - i);
        z.farm(8, 1);
        z.farm(5, 20);
        z.sign(0, SERVED, 0, 0);
        z.sign(1, SERVED, 0, 0);
        Due.due("8 first: 1 and 21 times 20", z.order(-1), 1 + 420);
        z.sign(0, CUT, 0, 0);
        orderIs("8 last", z, 1, 2, 3, 4, 5, 8);
    }

    private static void mendedAll() {
        CurrentFarms x = row(6, 6, 3);
        for (int c = 1; c <= 6; c++) x.storm(c, c);
        Due.due("six", x.fix(), 6);
        Due.due("none", x.count(6), 0);
        Due.due("no milk", x.order(-1), 0);
        Due.due("none", x.fix(), 0);
        Due.due("the line stays", x.count(5), 6);
    }

    /** "FARMS .. whose CELLS are on the way (with both)" */
    private static void theFirmsWay() {
        CurrentFarms x = row(7);
        for (int f = 0; f < 10; f++) x.farm(f < 8 ? f : f * 5, 1);
        for (int a = 0; a < 8; a++) {
            for (int b = 0; b < 8; b++) {
                Due.due("from " + a + " to " + b, x.spite(a, b, 0), Math.abs(a - b) + 1);
            }
        }
        CurrentFarms y = new CurrentFarms();
        int[][] stretches = {{0, 1}, {1, 2}, {2, 3}, {1, 9}, {9, 17}, {9, 10}, {0, 8}};
        for (int[] s : stretches) y.line(s[0], s[1]);
        int[] cells = {0, 1, 2, 3, 9, 17, 10, 8};
        for (int c : cells) y.farm(c, 1);
        Due.due("between two ends", y.spite(3, 17, 0), 5);
        Due.due("between two branches of a branch", y.spite(17, 10, 0), 3);
        Due.due("by the house", y.spite(8, 10, 0), 5);
        Due.due("back", y.spite(10, 8, 0), 5);
        Due.due("up", y.spite(17, 1, 0), 3);
        Due.due("a cell where nobody is", y.spite(47, 1, 0), Due.STATE);
    }

    /** "would be TAKEN, if take of THE RULE (for each) is 0" */
    private static void takeIs0() {
        CurrentFarms x = row(2);
        x.farm(1, 1);
        x.farm(1, 2);
        x.farm(2, 3);
        Due.due("none: 0", x.spite(0, 2, 0), 3);
        String[] rules = {"take=load-1", "take=load-2", "take=load-3", "take=3-load", "take=1", "take=0-1", "take=units",
            "take=1 unless load-1", "take=miles-1"};
        int[] due = {1, 2, 3, 1, 0, 3, 3, 2, 2};
        for (int i = 0; i < rules.length; i++) {
            x.image();
            Due.good(x, 0, rules[i]);
            Due.due(rules[i], x.spite(0, 2, 0), due[i]);
            x.undo();
        }
    }

    /** "FARMS, not GONE" */
    private static void notGone() {
        for (int what = SIGNED; what <= TAKEN; what++) {
            CurrentFarms x = row(1);
            x.farm(1, 1);
            x.month(1);
            Due.due("one that has no entry", x.spite(0, 1, 0), 1);
            x.sign(0, what, 1, 1);
            Due.due("one that is " + what, x.spite(0, 1, 0), what == TAKEN ? 0 : 1);
            x.sign(0, TAKEN, 0, 0);
            Due.due("it was gone once", x.spite(0, 1, 0), what == TAKEN ? 0 : 1);
        }
    }

    /** "LACKS: whether then (those being GONE, WAVERING ones counted anew) not ENOUGH are to each mile" */
    private static void lacksWhenGone() {
        CurrentFarms x = row(7, 7, 1, 6, 1, 5, 1, 4, 1);
        Due.due("7 times 3 by 10: 2", x.mile(0), 1);
        Due.due("one goes: 3", x.spite(7, 7, 1), 0);
        Due.due("two go: 2", x.spite(6, 7, 1), 0);
        Due.due("three go: 1", x.spite(5, 7, 1), 1);
        Due.due("none goes: 4", x.spite(0, 3, 1), 0);
        x.sign(0, WAVERING, 0, 3);
        x.sign(3, WAVERING, 0, 4);
        Due.due("two, and none of those", x.spite(0, 1, 1), 0);
        Due.due("one of the two goes", x.spite(6, 6, 1), 1);
        x.sign(0, WAVERING, 0, 2);
        x.sign(3, WAVERING, 0, 1);
        Due.due("all count", x.mile(2), 4);
        Due.due("one goes: another that waits for one comes, then one that waits for two", x.spite(6, 6, 1), 0);
        Due.due("two go: none waits for so few", x.spite(5, 6, 1), 1);
        Due.due("one that wavers goes, too", x.spite(7, 7, 1), 0);
        Due.due("all go", x.spite(0, 7, 1), 1);
        Due.due("nothing is changed", x.mile(2), 4);
        CurrentFarms y = row(1, 1, 1);
        Due.due("0 are enough for 3 by 10", y.spite(0, 1, 1), 0);
        CurrentFarms z = row(0, 0, 1);
        Due.due("no line: none are enough", z.spite(0, 0, 1), 0);
        Due.due("it goes", z.spite(0, 0, 0), 1);
    }

    /** "THE TAPE as a RULE from NOW on" */
    private static void triedFromNowOn() {
        CurrentFarms x = row(3, 3, 1);
        x.month(4);
        for (int i = 0; i < 8; i++) Due.good(x, i < 7 ? 4 : 5, "fee=" + i);
        Due.due("25 less 5 and 6", x.bill(0, 4), 26);
        Due.due("the greatest number of like months", Due.tried(x, 2, "fee=9"), 29);
        Due.due("it was but tried", x.bill(0, 4), 26);
        Due.due("eight rules", x.count(2), 8);
        Due.due("by the eight of them", x.why(2, 0, 5, 0), 700);
        Due.due("months ahead are as they were: 27, 57, 90, 126", Due.tried(x, 2, "rate=owed;fee=0"), 126);
        Due.due("the tape is empty", x.count(4), 0);
        Due.due("a fault", Due.tried(x, 2, "fee=9;"), -16);
        Due.due("the tape is empty", x.count(4), 0);
        Due.due("eight rules", x.count(2), 8);
        Due.due("unless all is as it was", Due.tried(x, 2, "fee=9 unless 1"), 26);
    }

    private static void triedOfNothing() {
        CurrentFarms x = new CurrentFarms();
        for (int what = 0; what < 3; what++) {
            Due.due("an empty tape", x.tried(what), -10);
            Due.due("of nothing", Due.tried(x, what, "mile=9999;serve=9999;fee=9999"), what == 0 ? 1 : 0);
        }
        Due.due("what 3", Due.tried(x, 3, "fee=1"), Due.NONE);
        Due.due("the tape stays", x.count(4), 5);
        Due.due("what -1", x.tried(-1), Due.NONE);
        Due.due("the tape stays", x.count(4), 5);
        Due.due("and is a rule", x.text(0), 0);
        Due.feed(x, "fee=10" + "+1".repeat(57));
        Due.due("a full tape", x.tried(2), 0);
        Due.due("is empty then", x.count(4), 0);
    }

    /** "all LEFT that would be are BROUGHT IN one by one (by numbers, each with those ahead)" */
    private static void triedOneByOne() {
        CurrentFarms x = new CurrentFarms();
        for (int c : new int[] {4, 2, 5, 3}) x.farm(c, 1);
        for (int f = 0; f < 4; f++) x.sign(f, SIGNED, 0, 0);
        Due.due("40 by 60 for the first, 10 by 20 for the third", Due.tried(x, 1, "late=1"), 50);
        x.sign(3, TAKEN, 0, 0);
        x.sign(1, TAKEN, 0, 0);
        Due.due("40 by 20: not; 50 by 40: not", Due.tried(x, 1, "late=1"), 0);
        Due.due("40 by 29: not; 50 by 49: not", Due.tried(x, 1, "serve=9"), 0);
        Due.due("40 by 30: not; 50 by 50", Due.tried(x, 1, "serve=10"), 50);
        Due.due("40 by 40; 10 by 40", Due.tried(x, 1, "serve=20"), 50);
        x.sign(1, CUT, 0, 0);
        Due.due("40 by 40; farm 1 comes with it; 10 by 20", Due.tried(x, 1, "late=1"), 50);
        x.sign(0, TAKEN, 0, 0);
        Due.due("20 by 20; then 30 by 20: not", Due.tried(x, 1, "late=1"), 20);
        Due.due("no stretch was told", x.count(5), 0);
        Due.due("two are left", x.left(), 6);
        x.line(0, 1);
        Due.due("10; then 30 by 20: not", Due.tried(x, 1, "late=1"), 10);
        x.line(1, 2);
        Due.due("none of them", Due.tried(x, 1, "late=1"), 0);
        Due.due("30 by 30", Due.tried(x, 1, "serve=10"), 30);
        x.line(2, 3);
        x.line(3, 4);
        x.line(4, 5);
        Due.due("none is left", Due.tried(x, 1, "serve=10"), 0);
    }

    /** "2 the BILLS of NOW together" */
    private static void triedBills() {
        CurrentFarms x = row(0, 1, 1, 2, 2, 3, 3);
        x.farm(4, 4);
        x.sign(3, SIGNED, 0, 0);
        Due.due("three of 20 and load", Due.tried(x, 2, "fee=load"), 66);
        x.sign(2, CUT, 0, 0);
        Due.due("two", Due.tried(x, 2, "fee=load"), 43);
        x.month(1);
        x.read(0, 1, 19);
        Due.due("9 units and 10", Due.tried(x, 2, "rate=units;fee=0"), 19);
        CurrentFarms y = new CurrentFarms();
        for (int f = 0; f < 10; f++) {
            y.farm(1, 1);
            y.sign(f, SERVED, 0, 0);
        }
        Due.due("the most", Due.tried(y, 2, "rate=9999*11;fee=9999*11"), 1999980);
    }

    private static void noImage() {
        CurrentFarms x = new CurrentFarms();
        Due.due("none", x.undo(), Due.STATE);
        x.month(7);
        Due.due("still none", x.undo(), Due.STATE);
        Due.due("now is 7", x.count(3), 7);
        Due.due("taken", x.image(), 7);
        Due.due("gone back to", x.undo(), 7);
        Due.due("it is there still", x.undo(), 7);
        x.month(120);
        Due.due("taken in its place", x.image(), 120);
        Due.due("gone back to", x.undo(), 120);
    }

    /** "All is as THE IMAGE" */
    private static void theImageHoldsAll() {
        CurrentFarms x = Rich.plain(), twin = Rich.plain();
        twin.image();
        twin.undo();
        x.image();
        x.month(9);
        x.farm(40, 50);
        x.sign(5, SERVED, 9, 0);
        x.sign(0, TAKEN, 0, 0);
        x.strike(0);
        x.text(0);
        Due.good(x, 0, "mile=9;rate=1;late=7");
        Due.feed(x, "take=9");
        x.clear();
        x.house(45);
        x.line(45, 46);
        x.storm(46, 20);
        x.span(5);
        x.wire(9);
        x.read(3, 1, 99);
        x.pay(3, 1, 99);
        x.loan(1, 1, 1, 1, 1);
        for (int c = 0; c < 24; c++) x.land(c, 0, 7);
        Due.due("gone back", x.undo(), Rich.NOW);
        Due.same("all as it was", Shown.whole(x), Shown.whole(twin));
        CurrentFarms y = Rich.fullOfBreaks(), other = Rich.fullOfBreaks();
        y.image();
        other.image();
        y.clear();
        Due.due("none", y.count(6), 0);
        y.undo();
        Due.due("six", y.count(6), 6);
        Due.same("all as it was", Shown.whole(y), Shown.whole(other));
    }

    private static void imageOfANewObject() {
        CurrentFarms x = new CurrentFarms(), twin = new CurrentFarms();
        twin.image();
        Due.due("of a new one", x.image(), 0);
        for (int c = 0; c < 10; c++) x.farm(c, 1 + c);
        x.month(5);
        x.sign(9, SERVED, 5, 0);
        x.line(0, 1);
        Due.feed(x, "fee=1");
        Due.due("gone back", x.undo(), 0);
        Due.same("a new one", Shown.whole(x), Shown.whole(twin));
        CurrentFarms y = new CurrentFarms();
        y.image();
        y.month(3);
        y.undo();
        Due.due("a month from 0 on", y.month(1), 0);
        Due.due("a farm from 0 on", y.farm(1, 1), 0);
        Due.due("an entry from 0 on", y.sign(0, SIGNED, 1, 0), 0);
        y.undo();
        Due.due("no farm", y.count(0), 0);
        Due.due("no entry", y.count(1), 0);
    }

    /** "0 FARMS, 1 ENTRIES, .. 9 THE HOUSE" */
    private static void counts() {
        CurrentFarms x = Rich.plain();
        int[] due = {5, 7, 2, Rich.NOW, 9, 6, 2, 2, 5, 8};
        for (int i = 0; i < 10; i++) Due.due("count " + i, x.count(i), due[i]);
        for (int off : new int[] {-1, 10, Integer.MIN_VALUE, Integer.MAX_VALUE}) {
            Due.due("count " + off, x.count(off), Due.NONE);
        }
        int[] first = {0, 0, 0, 0, 0, 0, 0, 3, 2, 0};
        for (int i = 0; i < 10; i++) Due.due("count " + i + " of a new one", new CurrentFarms().count(i), first[i]);
        Due.due("farms of ten", Rich.fullOfFarms().count(0), 10);
        Due.due("entries of 120", Rich.fullOfEntries().count(1), 120);
        Due.due("rules of eight", Rich.fullOfRules().count(2), 8);
        Due.due("bytes of 120", Rich.fullOfTape().count(4), 120);
        Due.due("breaks of six", Rich.fullOfBreaks().count(6), 6);
    }
}
