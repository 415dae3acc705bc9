/** Promises 7 to 11: sign, strike, as, many, tip. */
public final class BookPromises {
    private static final int SIGNED = 0, WAVERING = 1, SERVED = 2, CUT = 3, TAKEN = 4;

    public static void main(String[] args) {
        sign();
        signRefused();
        strike();
        strikeAtOnce();
        kinds();
        whatDecides();
        wavering();
        many();
        refusedOfKinds();
        tip();
        Due.end("book");
    }

    private static CurrentFarms farms(int n, int month) {
        CurrentFarms x = new CurrentFarms();
        for (int i = 0; i < n; i++) x.farm(i, 10);
        x.month(month);
        return x;
    }

    private static void sign() {
        CurrentFarms x = farms(2, 5);
        for (int i = 0; i < 120; i++) {
            Due.due("entry", x.sign(i % 2, i % 5, i % 6, i % 5 == WAVERING ? 1 + i % 10 : -i), i);
        }
        Due.due("full", x.sign(0, 0, 0, 0), Due.FULL);
        Due.due("full for a strike", x.strike(0), Due.FULL);
        Due.due("entries", x.count(1), 120);
    }

    private static void signRefused() {
        CurrentFarms x = farms(2, 5);
        String was = Due.counts(x);
        for (int off : Due.OFF) {
            Due.due("farm", x.sign(off, 0, 0, 0), Due.NONE);
            Due.due("what", x.sign(0, off, 0, 0), Due.NONE);
            Due.due("month", x.sign(0, 0, off, 0), Due.BAD);
            Due.due("n", x.sign(0, WAVERING, 0, off), Due.BAD);
        }
        Due.due("farm 2 ahead of month", x.sign(2, 0, 6, 0), Due.NONE);
        Due.due("what 5 is not told so", x.sign(0, 5, 6, 0), Due.NONE);
        Due.due("a month to come", x.sign(0, 0, 6, 0), Due.BAD);
        Due.due("n 0", x.sign(0, WAVERING, 5, 0), Due.BAD);
        Due.due("n 11", x.sign(0, WAVERING, 5, 11), Due.BAD);
        Due.same("nothing came", Due.counts(x), was);
        Due.due("n of another", x.sign(0, SERVED, 5, 11), 0);
        Due.due("n 10", x.sign(0, WAVERING, 5, 10), 1);
    }

    private static void strikeAtOnce() {
        CurrentFarms x = farms(1, 0);
        x.sign(0, CUT, 0, 0);
        Due.due("the first one at once", x.strike(0), 1);
        Due.due("it is gone", x.as(0, 0, -1), 0);
        Due.due("by one it is not", x.as(0, 0, 1), 1);
        Due.due("struck already", x.strike(0), Due.STATE);
    }

    private static void strike() {
        CurrentFarms x = farms(1, 3);
        Due.due("none yet", x.strike(0), Due.NONE);
        x.sign(0, SIGNED, 1, 0);
        x.sign(0, TAKEN, 2, 0);
        Due.due("kind", x.as(0, 3, -1), 5);
        Due.due("struck", x.strike(1), 2);
        Due.due("kind then", x.as(0, 3, -1), 1);
        Due.due("by the first two it was not struck", x.as(0, 3, 2), 5);
        Due.due("by three it is", x.as(0, 3, 3), 1);
        Due.due("struck twice", x.strike(1), Due.STATE);
        Due.due("a striking one", x.strike(2), Due.STATE);
        Due.due("none", x.strike(3), Due.NONE);
        Due.due("none", x.strike(-1), Due.NONE);
        Due.due("the first", x.strike(0), 3);
        Due.due("kind at last", x.as(0, 3, -1), 0);
        Due.due("entries", x.count(1), 4);
    }

    private static void kinds() {
        CurrentFarms x = farms(6, 0);
        for (int what = 0; what < 5; what++) x.sign(what, what, 0, 10);
        int[] due = {1, 2, 4, 1, 5, 0};
        for (int f = 0; f < 6; f++) Due.due("kind of " + f, x.as(f, 0, -1), due[f]);
        x.pay(2, 0, 9999);
        Due.due("served, and owes nothing", x.as(2, 0, -1), 3);
        CurrentFarms y = farms(1, 0);
        y.sign(0, SERVED, 0, 0);
        y.pay(0, 0, 24);
        Due.due("one coin", y.as(0, 0, -1), 4);
        y.pay(0, 0, 1);
        Due.due("none", y.as(0, 0, -1), 3);
        Due.due("a month to come", x.as(2, 120, -1), 3);
    }

    private static void whatDecides() {
        CurrentFarms x = farms(2, 9);
        x.sign(0, SERVED, 4, 0);
        x.pay(0, 0, 9999);
        x.sign(0, TAKEN, 2, 0);
        Due.due("ahead of all", x.as(0, 1, -1), 0);
        Due.due("by the earlier month", x.as(0, 3, -1), 5);
        Due.due("a later month decides", x.as(0, 4, -1), 3);
        Due.due("and goes on", x.as(0, 9, -1), 3);
        x.sign(0, CUT, 4, 0);
        Due.due("of one month the last told", x.as(0, 4, -1), 1);
        Due.due("by two", x.as(0, 4, 2), 3);
        Due.due("by one", x.as(0, 3, 1), 0);
        Due.due("by none", x.as(0, 9, 0), 0);
        Due.due("the other farm", x.as(1, 9, -1), 0);
        x.sign(1, SERVED, 0, 0);
        x.sign(1, CUT, 9, 0);
        Due.due("arrears by all, the kind by four", x.as(1, 9, 4), 4);
        x.pay(1, 0, 9999);
        Due.due("what was paid counts by all", x.as(1, 9, 4), 3);
    }

    private static void wavering() {
        CurrentFarms x = farms(5, 9);
        x.sign(0, SIGNED, 3, 0);
        x.sign(1, WAVERING, 0, 1);
        x.sign(2, WAVERING, 0, 2);
        x.sign(3, WAVERING, 5, 3);
        Due.due("not yet", x.as(1, 2, -1), 2);
        Due.due("one signed", x.as(1, 3, -1), 1);
        Due.due("it counts for the next", x.as(2, 3, -1), 1);
        Due.due("and that for another", x.as(3, 5, -1), 1);
        Due.due("but not ahead of its month", x.as(3, 4, -1), 0);
        x.sign(0, TAKEN, 7, 0);
        Due.due("anew in each month", x.as(1, 7, -1), 2);
        Due.due("all of them", x.many(2, 7, -1), 3);
        Due.due("as it was", x.many(1, 6, -1), 4);
        x.sign(4, SERVED, 8, 0);
        Due.due("served ones count", x.many(2, 8, -1), 0);
        x.sign(4, CUT, 9, 0);
        Due.due("cut ones, too", x.many(1, 9, -1), 4);
        Due.due("by the first four", x.many(1, 9, 4), 4);
        Due.due("by the first three", x.as(3, 9, 3), 0);

        CurrentFarms y = farms(2, 0);
        y.sign(0, WAVERING, 0, 1);
        y.sign(1, WAVERING, 0, 1);
        Due.due("two that wait for one another", y.many(2, 0, -1), 2);
    }

    private static void many() {
        CurrentFarms x = farms(7, 0);
        x.sign(0, SIGNED, 0, 0);
        x.sign(1, WAVERING, 0, 9);
        x.sign(2, SERVED, 0, 0);
        x.sign(3, SERVED, 0, 0);
        x.pay(3, 0, 9999);
        x.sign(4, CUT, 0, 0);
        x.sign(5, TAKEN, 0, 0);
        int[] due = {7, 4, 1, 2, 1, 1};
        for (int k = 0; k < 6; k++) Due.due("many of " + k, x.many(k, 0, -1), due[k]);
        Due.due("farms by none", x.many(0, 0, 0), 7);
        Due.due("members by none", x.many(1, 0, 0), 0);
        x.sign(0, SERVED, 0, 0);
        Due.due("two owe", x.many(4, 0, -1), 2);
        Due.due("three are served", x.many(3, 0, -1), 3);
        Due.due("by one that is owing by another entry", x.many(4, 0, 1), 0);
    }

    private static void refusedOfKinds() {
        CurrentFarms x = farms(1, 4);
        x.sign(0, SIGNED, 4, 0);
        for (int off : Due.OFF) {
            Due.due("farm", x.as(off, 0, -1), Due.NONE);
            Due.due("e", x.as(0, 0, off), Due.NONE);
            Due.due("month", x.as(0, off, -1), Due.BAD);
            Due.due("k", x.many(off, 0, -1), Due.NONE);
            Due.due("e", x.many(0, 0, off), Due.NONE);
            Due.due("month", x.many(0, off, -1), Due.BAD);
            Due.due("farm", x.tip(off), Due.NONE);
        }
        Due.due("e 2 of 1, ahead of month", x.as(0, 121, 2), Due.NONE);
        Due.due("month 121", x.as(0, 121, 1), Due.BAD);
        Due.due("month 120", x.as(0, 120, 1), 1);
        Due.due("k 6", x.many(6, 121, -1), Due.NONE);
        Due.due("e -2", x.many(0, 121, -2), Due.NONE);
        Due.due("month 121", x.many(0, 121, -1), Due.BAD);
        Due.due("no farm 1", x.tip(1), Due.NONE);
    }

    private static void tip() {
        CurrentFarms x = farms(6, 2);
        x.sign(0, SIGNED, 0, 0);
        x.sign(1, WAVERING, 0, 2);
        x.sign(2, WAVERING, 0, 3);
        x.sign(3, WAVERING, 0, 9);
        Due.due("one that has none tips two and itself", x.tip(5), 3);
        Due.due("a wavering one that tips itself alone", x.tip(1), 1);
        Due.due("a wavering one tips one and itself", x.tip(2), 2);
        Due.due("the highest one tips the others", x.tip(3), 3);
        Due.due("a member tips none", x.tip(0), 0);
        x.sign(4, TAKEN, 1, 0);
        Due.due("one that is gone", x.tip(4), 3);
        x.sign(5, SERVED, 2, 0);
        Due.due("a served one tips none", x.tip(5), 0);
        Due.due("one that counts tips none", x.tip(1), 0);
        Due.due("itself alone", x.tip(3), 1);
        Due.due("tip changes nothing", x.as(3, 2, -1), 2);
        CurrentFarms y = farms(3, 0);
        y.sign(2, WAVERING, 0, 1);
        Due.due("of farm 0", y.tip(0), 2);
        Due.due("of farm 1", y.tip(1), 2);
        Due.due("of farm 2", y.tip(2), 1);
    }
}
