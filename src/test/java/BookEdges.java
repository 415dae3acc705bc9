/** ==== 2, sentence by sentence: each limit from inside and from outside, the empty and the full book. */
public final class BookEdges {
    private static final int SIGNED = 0, WAVERING = 1, SERVED = 2, CUT = 3, TAKEN = 4;

    public static void main(String[] args) {
        theEmptyBook();
        entriesAre120AtMost();
        entriesAreOfMonthsUpToNow();
        othersFrom1To10();
        nMattersForWaveringAlone();
        nOrMoreOthers();
        itDoesNotCountForItself();
        countedTogether();
        anewInEachMonth();
        whoIsAMember();
        servedTillAnotherEntry();
        struckOnce();
        byTheFirstEntries();
        theLastByMonths();
        owingAboveNothing();
        monthsToCome();
        oneUnderThat();
        tippedByAFarm();
        tippedNow();
        Due.end("edges of the book");
    }

    private static CurrentFarms farms(int n, int now) {
        CurrentFarms x = new CurrentFarms();
        for (int i = 0; i < n; i++) x.farm(10 + i, 1 + i);
        x.month(now);
        return x;
    }

    private static void theEmptyBook() {
        CurrentFarms none = new CurrentFarms();
        for (int k = 0; k < 6; k++) Due.due("no farms of kind " + k, none.many(k, 0, -1), 0);
        Due.due("no entry to strike", none.strike(0), Due.NONE);
        Due.due("none to sign", none.sign(0, SIGNED, 0, 0), Due.NONE);
        CurrentFarms x = farms(10, 0);
        Due.due("entries", x.count(1), 0);
        for (int f = 0; f < 10; f++) {
            Due.due("kind by all", x.as(f, 0, -1), 0);
            Due.due("kind by none", x.as(f, 120, 0), 0);
            Due.due("kind by one", x.as(f, 0, 1), Due.NONE);
            Due.due("tips itself", x.tip(f), 1);
        }
        for (int k = 0; k < 6; k++) Due.due("kind " + k, x.many(k, 0, 0), k == 0 ? 10 : 0);
        Due.due("by one", x.many(0, 0, 1), Due.NONE);
        Due.due("no entry to strike", x.strike(0), Due.NONE);
    }

    /** "ENTRIES, 120 at most, numbered from 0 on as they are told" */
    private static void entriesAre120AtMost() {
        CurrentFarms x = farms(10, 0);
        for (int i = 0; i < 119; i++) Due.due("entry", x.sign(i % 10, CUT, 0, 0), i);
        x.image();
        Due.due("the last is a sign", x.sign(9, TAKEN, 0, 0), 119);
        Due.due("full", x.sign(0, SIGNED, 0, 0), Due.FULL);
        Due.due("full to strike the last", x.strike(119), Due.FULL);
        Due.due("full to strike the first", x.strike(0), Due.FULL);
        Due.due("no entry 120", x.strike(120), Due.NONE);
        Due.due("entries", x.count(1), 120);
        Due.due("the last decides", x.as(9, 0, -1), 5);
        Due.due("by 120", x.as(9, 0, 120), 5);
        Due.due("by 119", x.as(9, 0, 119), 1);
        Due.due("by 121", x.as(9, 0, 121), Due.NONE);
        x.undo();
        Due.due("the last strikes", x.strike(118), 119);
        Due.due("full", x.sign(0, SIGNED, 0, 0), Due.FULL);
        Due.due("struck ahead of full", x.strike(118), Due.STATE);
        Due.due("striking one ahead of full", x.strike(119), Due.STATE);
        Due.due("full", x.strike(117), Due.FULL);
        Due.due("entries", x.count(1), 120);
        x.undo();
        Due.due("room again", x.sign(8, WAVERING, 0, 10), 119);
        Due.due("it wavers", x.as(8, 0, -1), 2);
    }

    /** "each is of a MONTH (0 .. NOW)" */
    private static void entriesAreOfMonthsUpToNow() {
        CurrentFarms x = farms(1, 0);
        Due.due("month 1 is to come", x.sign(0, SIGNED, 1, 0), Due.BAD);
        Due.due("month -1", x.sign(0, SIGNED, -1, 0), Due.BAD);
        Due.due("month 0", x.sign(0, SIGNED, 0, 0), 0);
        x.month(1);
        Due.due("month 1", x.sign(0, CUT, 1, 0), 1);
        Due.due("month 2", x.sign(0, SIGNED, 2, 0), Due.BAD);
        x.month(120);
        Due.due("month 120", x.sign(0, TAKEN, 120, 0), 2);
        Due.due("month 121", x.sign(0, TAKEN, 121, 0), Due.BAD);
        Due.due("of month 120", x.as(0, 120, -1), 5);
        Due.due("not of 119", x.as(0, 119, -1), 1);
        Due.due("entries", x.count(1), 3);
    }

    /** "n FARMS (1 .. 10)" */
    private static void othersFrom1To10() {
        CurrentFarms x = farms(10, 0);
        for (int n : new int[] {0, 11, -1, Integer.MIN_VALUE, Integer.MAX_VALUE}) {
            Due.due("n " + n, x.sign(9, WAVERING, 0, n), Due.BAD);
        }
        for (int f = 0; f < 9; f++) x.sign(f, SIGNED, 0, 0);
        Due.due("no entry came", x.count(1), 9);
        Due.due("n 10", x.sign(9, WAVERING, 0, 10), 9);
        Due.due("there are but nine others", x.as(9, 0, -1), 2);
        Due.due("n 9", x.sign(9, WAVERING, 0, 9), 10);
        Due.due("nine others", x.as(9, 0, -1), 1);
        Due.due("n 1", x.sign(9, WAVERING, 0, 1), 11);
        Due.due("nine are more than one", x.as(9, 0, -1), 1);
    }

    /** "n (of WAVERING; of others it does not matter)" */
    private static void nMattersForWaveringAlone() {
        CurrentFarms x = farms(1, 0);
        int entry = 0;
        for (int what : new int[] {SIGNED, SERVED, CUT, TAKEN}) {
            for (int n : new int[] {0, 11, Integer.MIN_VALUE, Integer.MAX_VALUE}) {
                Due.due("what " + what + ", n " + n, x.sign(0, what, 0, n), entry);
                entry++;
            }
        }
    }

    /** "in which n FARMS others, or more, are SIGNED, or count so" */
    private static void nOrMoreOthers() {
        for (int n = 1; n < 10; n++) {
            CurrentFarms x = farms(10, 20);
            x.sign(9, WAVERING, 1, n);
            for (int f = 0; f < 9; f++) x.sign(f, SIGNED, 2 + f, 0);
            Due.due("none yet of " + n, x.as(9, 1, -1), 2);
            Due.due("one less than " + n, x.as(9, n, -1), 2);
            Due.due("just " + n, x.as(9, n + 1, -1), 1);
            Due.due("nine of " + n, x.as(9, 20, -1), 1);
            Due.due("ahead of its own month", x.as(9, 0, -1), 0);
        }
    }

    private static void itDoesNotCountForItself() {
        CurrentFarms x = farms(3, 0);
        x.sign(0, WAVERING, 0, 1);
        Due.due("one alone", x.as(0, 0, -1), 2);
        x.sign(1, WAVERING, 0, 1);
        Due.due("two that wait for one another", x.many(2, 0, -1), 2);
        x.sign(2, WAVERING, 0, 2);
        Due.due("three", x.many(1, 0, -1), 0);
        x.sign(2, TAKEN, 0, 0);
        Due.due("one that is gone is not signed", x.many(1, 0, -1), 0);
        x.sign(2, CUT, 0, 0);
        Due.due("one that is cut is a member", x.many(1, 0, -1), 3);
    }

    /** "none at first; then those whose n is reached .., and so on till no more come" */
    private static void countedTogether() {
        CurrentFarms up = farms(10, 0), down = farms(10, 0), gap = farms(10, 0);
        for (int f = 1; f < 10; f++) {
            up.sign(f, WAVERING, 0, f);
            down.sign(9 - f, WAVERING, 0, f);
            gap.sign(f, WAVERING, 0, f == 5 ? 6 : f);
        }
        Due.due("nine wait", up.many(2, 0, -1), 9);
        Due.due("nine wait", down.many(2, 0, -1), 9);
        Due.due("all by one", up.tip(0), 10);
        Due.due("all by one", down.tip(9), 10);
        up.sign(0, SIGNED, 0, 0);
        down.sign(9, SIGNED, 0, 0);
        gap.sign(0, SIGNED, 0, 0);
        Due.due("one behind the other", up.many(1, 0, -1), 10);
        Due.due("the last of them", up.as(9, 0, -1), 1);
        Due.due("by greater numbers first", down.many(1, 0, -1), 10);
        Due.due("the last of them", down.as(0, 0, -1), 1);
        Due.due("four come, five wait", gap.many(1, 0, -1), 5);
        Due.due("the last that comes", gap.as(4, 0, -1), 1);
        Due.due("the first that waits", gap.as(5, 0, -1), 2);
        Due.due("it would bring all", gap.tip(5), 5);
        Due.due("so would the last", gap.tip(9), 5);
    }

    private static void anewInEachMonth() {
        CurrentFarms x = farms(2, 6);
        x.sign(0, WAVERING, 0, 1);
        x.sign(1, SIGNED, 2, 0);
        x.sign(1, TAKEN, 3, 0);
        x.sign(1, CUT, 5, 0);
        int[] due = {2, 2, 1, 2, 2, 1, 1};
        for (int m = 0; m < 7; m++) Due.due("month " + m, x.as(0, m, -1), due[m]);
        Due.due("the last month", x.as(0, 120, -1), 1);
    }

    /** "MEMBERS (1, 3, 4)" */
    private static void whoIsAMember() {
        int[] whats = {SIGNED, SERVED, CUT, TAKEN};
        int[] due = {1, 1, 1, 2};
        for (int i = 0; i < 4; i++) {
            CurrentFarms x = farms(2, 0);
            x.sign(1, WAVERING, 0, 1);
            x.sign(0, whats[i], 0, 0);
            Due.due("by " + whats[i], x.as(1, 0, -1), due[i]);
            x.pay(0, 0, 9999);
            Due.due("paid, by " + whats[i], x.as(1, 0, -1), due[i]);
        }
        CurrentFarms x = farms(2, 0);
        x.sign(1, WAVERING, 0, 1);
        Due.due("one that has no entry is none", x.as(1, 0, -1), 2);
    }

    /** "SERVED (from a MONTH on, till another ENTRY of it)" */
    private static void servedTillAnotherEntry() {
        for (int what : new int[] {SIGNED, WAVERING, CUT, TAKEN}) {
            CurrentFarms x = farms(2, 9);
            x.sign(1, SIGNED, 0, 0);
            x.sign(0, SERVED, 3, 0);
            x.sign(0, what, 6, 9);
            Due.due("not yet", x.read(0, 2, 1), Due.STATE);
            Due.due("from then on", x.read(0, 3, 1), -5);
            Due.due("to the last", x.read(0, 5, 2), -5);
            Due.due("no more", x.read(0, 6, 3), Due.STATE);
            int kind = what == WAVERING ? 2 : what == TAKEN ? 5 : 1;
            Due.due("another kind", x.as(0, 6, -1), kind);
            x.sign(0, SERVED, 9, 0);
            Due.due("served again", x.read(0, 9, 3), -5);
            Due.due("but not ahead of it", x.read(0, 8, 3), Due.STATE);
        }
        CurrentFarms y = farms(2, 9);
        y.sign(0, SERVED, 3, 0);
        y.sign(1, CUT, 4, 0);
        Due.due("an entry of another does not matter", y.read(0, 4, 1), -5);
    }

    /** "STATE: it is STRUCK, or STRUCK one" */
    private static void struckOnce() {
        CurrentFarms x = farms(2, 3);
        x.sign(0, SIGNED, 1, 0);
        x.sign(1, SIGNED, 1, 0);
        x.sign(0, TAKEN, 2, 0);
        Due.due("the last", x.strike(2), 3);
        Due.due("the one ahead decides again", x.as(0, 3, -1), 1);
        Due.due("struck", x.strike(2), Due.STATE);
        Due.due("striking", x.strike(3), Due.STATE);
        Due.due("not told yet", x.strike(4), Due.NONE);
        Due.due("the other is as it was", x.as(1, 3, -1), 1);
        Due.due("the first", x.strike(0), 4);
        Due.due("it has none", x.as(0, 3, -1), 0);
        Due.due("the other is as it was", x.as(1, 3, -1), 1);
        Due.due("another", x.sign(0, CUT, 0, 0), 5);
        Due.due("decides", x.as(0, 0, -1), 1);
        Due.due("entries, struck and striking ones, too", x.count(1), 6);
        Due.due("struck, too", x.strike(5), 6);
        Due.due("it has none", x.as(0, 3, -1), 0);
    }

    /** "By e: by the first e ENTRIES (e -1: all)" */
    private static void byTheFirstEntries() {
        CurrentFarms x = farms(2, 4);
        x.sign(0, SIGNED, 2, 0);
        x.sign(1, WAVERING, 1, 1);
        x.sign(0, TAKEN, 3, 0);
        x.strike(2);
        x.strike(0);
        int[] due = {0, 1, 1, 5, 1, 0}, others = {0, 0, 1, 2, 1, 2};
        for (int e = 0; e <= 5; e++) {
            Due.due("by " + e, x.as(0, 4, e), due[e]);
            Due.due("the other by " + e, x.as(1, 4, e), others[e]);
            Due.due("members by " + e, x.many(1, 4, e), (due[e] == 1 ? 1 : 0) + (others[e] == 1 ? 1 : 0));
        }
        Due.due("by all", x.as(0, 4, -1), 0);
        Due.due("by all", x.as(1, 4, -1), 2);
        Due.due("by one too many", x.as(0, 4, 6), Due.NONE);
        Due.due("by -2", x.as(0, 4, -2), Due.NONE);
        Due.due("by one too many", x.many(0, 4, 6), Due.NONE);
        Due.due("by -2", x.many(0, 4, -2), Due.NONE);
    }

    /** "the last of its ENTRIES of MONTHS up to that, by MONTHS, of one MONTH as told, decides" */
    private static void theLastByMonths() {
        CurrentFarms x = farms(1, 9);
        x.sign(0, TAKEN, 5, 0);
        x.sign(0, SIGNED, 3, 0);
        x.sign(0, WAVERING, 4, 1);
        int[] due = {0, 0, 0, 1, 2, 5, 5, 5, 5, 5};
        for (int m = 0; m < 10; m++) Due.due("month " + m, x.as(0, m, -1), due[m]);
        x.sign(0, CUT, 5, 0);
        Due.due("of month 5 the one told last", x.as(0, 5, -1), 1);
        x.sign(0, TAKEN, 3, 0);
        Due.due("of month 3, too", x.as(0, 3, -1), 5);
        Due.due("month 4 as it was", x.as(0, 4, -1), 2);
        x.sign(0, SIGNED, 0, 0);
        Due.due("month 0", x.as(0, 0, -1), 1);
        Due.due("month 2", x.as(0, 2, -1), 1);
        Due.due("month 9", x.as(0, 9, -1), 1);
    }

    /** "OWING under SERVED (ARREARS behind the MONTH are above 0)" */
    private static void owingAboveNothing() {
        for (int paid = 24; paid < 27; paid++) {
            CurrentFarms x = farms(1, 2);
            x.sign(0, SERVED, 1, 0);
            x.pay(0, 1, paid);
            Due.due("25 less " + paid, x.as(0, 1, -1), paid < 25 ? 4 : 3);
            Due.due("owing ones", x.many(4, 1, -1), paid < 25 ? 1 : 0);
            Due.due("served ones", x.many(3, 1, -1), 1);
            Due.due("behind the next month, too", x.as(0, 2, -1), 4);
            Due.due("ahead of its service", x.as(0, 0, -1), 0);
            x.sign(0, CUT, 2, 0);
            Due.due("one that is cut is not owing", x.as(0, 2, -1), 1);
        }
    }

    /** "KIND of a FARM in a MONTH (0 .. 120)" */
    private static void monthsToCome() {
        CurrentFarms x = farms(1, 0);
        x.sign(0, SERVED, 0, 0);
        x.pay(0, 0, 99);
        Due.due("74 too much", x.as(0, 0, -1), 3);
        Due.due("49", x.as(0, 1, -1), 3);
        Due.due("24", x.as(0, 2, -1), 3);
        Due.due("1 is open", x.as(0, 3, -1), 4);
        Due.due("the last", x.as(0, 120, -1), 4);
        Due.due("121", x.as(0, 121, -1), Due.BAD);
        Due.due("-1", x.as(0, -1, -1), Due.BAD);
        Due.due("none owe in month 2", x.many(4, 2, -1), 0);
        Due.due("one owes in month 120", x.many(4, 120, -1), 1);
        Due.due("121", x.many(4, 121, -1), Due.BAD);
        Due.due("-1", x.many(4, -1, -1), Due.BAD);
        Due.due("but the month went not by", x.owe(0, 1), Due.NONE);
    }

    /** "How many FARMS are of a KIND k (0 .. 5), or one under that" */
    private static void oneUnderThat() {
        int[][] due = {{1, 0, 0, 0, 0, 0}, {1, 1, 0, 0, 0, 0}, {1, 0, 1, 0, 0, 0}, {1, 1, 0, 1, 0, 0},
            {1, 1, 0, 1, 1, 0}, {1, 0, 0, 0, 0, 1}};
        for (int kind = 0; kind < 6; kind++) {
            CurrentFarms x = farms(1, 0);
            if (kind == 1) x.sign(0, SIGNED, 0, 0);
            if (kind == 2) x.sign(0, WAVERING, 0, 1);
            if (kind == 3 || kind == 4) x.sign(0, SERVED, 0, 0);
            if (kind == 3) x.pay(0, 0, 25);
            if (kind == 5) x.sign(0, TAKEN, 0, 0);
            Due.due("its kind", x.as(0, 0, -1), kind);
            for (int k = 0; k < 6; k++) Due.due("kind " + kind + " under " + k, x.many(k, 0, -1), due[kind][k]);
            Due.due("no kind 6", x.many(6, 0, -1), Due.NONE);
            Due.due("no kind -1", x.many(-1, 0, -1), Due.NONE);
        }
    }

    /** "(itself too, if it is none of 1, 3, 4)" */
    private static void tippedByAFarm() {
        int[] whats = {SIGNED, WAVERING, SERVED, CUT, TAKEN};
        int[] due = {0, 2, 0, 0, 2};
        for (int i = 0; i < 5; i++) {
            CurrentFarms x = farms(4, 0);
            x.sign(3, SIGNED, 0, 0);
            x.sign(0, whats[i], 0, 4);
            boolean member = due[i] == 0;
            x.sign(1, WAVERING, 0, member ? 3 : 2);
            Due.due("one that is " + whats[i], x.tip(0), due[i]);
            Due.due("a waverer that waits", x.tip(1), 1);
            Due.due("one that has no entry", x.tip(2), 2);
            Due.due("entries", x.count(1), 3);
        }
        CurrentFarms x = farms(2, 0);
        x.sign(0, WAVERING, 0, 1);
        x.sign(1, SIGNED, 0, 0);
        Due.due("a waverer that counts", x.tip(0), 0);
        CurrentFarms y = farms(2, 0);
        y.sign(0, WAVERING, 0, 2);
        Due.due("two were too many for it", y.tip(1), 1);
    }

    private static void tippedNow() {
        CurrentFarms x = farms(2, 3);
        x.sign(0, WAVERING, 2, 1);
        x.sign(1, SIGNED, 0, 0);
        x.sign(1, TAKEN, 3, 0);
        Due.due("now it is gone", x.tip(1), 2);
        x.month(4);
        x.sign(1, CUT, 4, 0);
        Due.due("now it is a member", x.tip(1), 0);
        Due.due("no farm 2", x.tip(2), Due.NONE);
    }
}
