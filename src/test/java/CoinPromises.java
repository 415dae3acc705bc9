/** Promises 27 to 34: read, units, bill, pay, owe, loan, due, cannot. */
public final class CoinPromises {
    private static final int SIGNED = 0, SERVED = 2, CUT = 3;

    public static void main(String[] args) {
        read();
        guesses();
        putRight();
        meterAcrossACut();
        bill();
        pay();
        owe();
        oweLimits();
        refused();
        loan();
        cannot();
        Due.end("coins");
    }

    /** Farm 0 (load 5) SERVED from a MONTH on, farm 1 signed; NOW is a MONTH. */
    private static CurrentFarms served(int from, int now) {
        CurrentFarms x = new CurrentFarms();
        x.farm(3, 5);
        x.farm(4, 6);
        x.month(now);
        x.sign(0, SERVED, from, 0);
        x.sign(1, SIGNED, 0, 0);
        return x;
    }

    private static void read() {
        CurrentFarms x = served(2, 5);
        Due.due("nothing ahead", x.read(0, 2, 0), -5);
        Due.due("a zero was read", x.read(0, 2, 9999), 0);
        Due.due("the greatest", x.read(0, 2, 7), 9999);
        Due.due("another month", x.read(0, 5, 7), -5);
        Due.due("not served then", x.read(0, 1, 7), Due.STATE);
        Due.due("never served", x.read(1, 5, 7), Due.STATE);
        Due.due("bad ahead of state", x.read(1, 5, -1), Due.BAD);
        Due.due("10000", x.read(0, 5, 10000), Due.BAD);
        Due.due("a month to come", x.read(0, 6, -1), Due.NONE);
        Due.due("month -1", x.read(0, -1, 0), Due.NONE);
        Due.due("farm 2", x.read(2, 0, -1), Due.NONE);
        Due.due("it stayed", x.read(0, 5, 8), 7);
    }

    private static void guesses() {
        CurrentFarms x = served(2, 20);
        Due.due("not served", x.units(0, 1), 0);
        Due.due("none was read", x.units(0, 2), 10);
        Due.due("none was read", x.units(0, 20), 10);
        Due.due("another farm", x.units(1, 20), 0);
        x.read(0, 4, 100);
        Due.due("ahead of it as it was", x.units(0, 3), 10);
        Due.due("less two guesses", x.units(0, 4), 80);
        Due.due("by 1, as none was read ahead", x.units(0, 5), 80);
        x.read(0, 9, 550);
        Due.due("less four guesses", x.units(0, 9), 550 - 100 - 4 * 80);
        Due.due("by five months", x.units(0, 10), 130 / 5);
        x.read(0, 12, 550 + 52 + 11);
        Due.due("11", x.units(0, 12), 11);
        Due.due("by three, cut", x.units(0, 13), 3);
        Due.due("on and on", x.units(0, 20), 3);
        x.read(0, 12, 550 + 52);
        Due.due("nothing more", x.units(0, 12), 0);
        Due.due("so none is guessed", x.units(0, 13), 0);
    }

    private static void putRight() {
        CurrentFarms x = served(0, 20);
        x.read(0, 0, 50);
        x.read(0, 2, 60);
        Due.due("50 less than nothing", x.units(0, 1), 50);
        Due.due("60 less 50 less 50: 0", x.units(0, 2), 0);
        x.read(0, 3, 85);
        Due.due("25 less the 40 that were kept: 0", x.units(0, 3), 0);
        x.read(0, 5, 105);
        Due.due("guessed of 0", x.units(0, 4), 0);
        Due.due("20 less the 15 that are still kept", x.units(0, 5), 5);
        x.read(0, 6, 125);
        Due.due("all is right again", x.units(0, 6), 20);
        x.read(0, 7, 0);
        Due.due("a meter that runs back", x.units(0, 7), 0);
        x.read(0, 8, 130);
        Due.due("is right again, too", x.units(0, 8), 5);
    }

    private static void meterAcrossACut() {
        CurrentFarms x = served(0, 20);
        x.read(0, 1, 30);
        x.sign(0, CUT, 2, 0);
        x.sign(0, SERVED, 5, 0);
        Due.due("20 of month 1", x.units(0, 1), 20);
        Due.due("cut", x.units(0, 3), 0);
        Due.due("guessed again", x.units(0, 5), 20);
        x.read(0, 6, 80);
        Due.due("less one guess", x.units(0, 6), 30);
        Due.due("by the months from 1 to 6", x.units(0, 7), 6);
        x.sign(0, CUT, 6, 0);
        x.sign(0, SERVED, 7, 0);
        Due.due("what was read then is not so any more", x.units(0, 6), 0);
        Due.due("guessed by month 1", x.units(0, 7), 20);
        x.strike(4);
        Due.due("and so once more", x.units(0, 6), 30);
    }

    private static void bill() {
        CurrentFarms x = served(1, 4);
        Due.due("not served", x.bill(0, 0), 0);
        Due.due("never served", x.bill(1, 4), 0);
        Due.due("2 times 10 and 5", x.bill(0, 1), 25);
        x.read(0, 2, 40);
        Due.due("2 times 30 and 5", x.bill(0, 2), 65);
        Due.good(x, 2, "rate=[units:4,3,2];fee=units/10+load unless owed-100");
        Due.due("by the rule of then", x.bill(0, 1), 25);
        Due.due("by steps, and a fee with units", x.bill(0, 2), 40 + 30 + 20 + 3 + 5);
        Due.due("owed: 27 and 107 of two months", x.bill(0, 3), 90 + 5);
        x.pay(0, 2, 90);
        Due.due("when some of it was paid", x.bill(0, 3), 90 + 8);
    }

    private static void pay() {
        CurrentFarms x = served(0, 3);
        Due.due("paid", x.pay(0, 3, 9999), 9999);
        Due.due("more", x.pay(0, 3, 1), 10000);
        Due.due("in another month", x.pay(0, 2, 5), 5);
        Due.due("one who is not served", x.pay(1, 0, 7), 7);
        Due.due("0", x.pay(0, 0, 0), Due.BAD);
        Due.due("10000", x.pay(0, 0, 10000), Due.BAD);
        Due.due("month 4 ahead of coins", x.pay(0, 4, 0), Due.NONE);
        Due.due("farm 2 ahead of coins", x.pay(2, 0, 0), Due.NONE);
        Due.due("it stayed", x.pay(0, 3, 1), 10001);
    }

    private static void owe() {
        CurrentFarms x = served(0, 4);
        Due.due("25 and 2 late", x.owe(0, 0), 27);
        Due.due("52 and 5 late", x.owe(0, 1), 57);
        x.pay(0, 2, 100);
        Due.due("82 less 100: nothing is late", x.owe(0, 2), -18);
        Due.due("7, and 0 late", x.owe(0, 3), 7);
        x.pay(0, 4, 32);
        Due.due("all is paid", x.owe(0, 4), 0);
        Due.due("so it is served, not owing", x.as(0, 4, -1), 3);
        Due.due("and was owing", x.as(0, 3, -1), 4);
        x.pay(1, 2, 9);
        Due.due("one who is not served", x.owe(1, 1), 0);
        Due.due("had to pay nothing", x.owe(1, 4), -9);
        Due.good(x, 3, "late=kind*10+units*9 unless miles");
        Due.due("late by 30", x.owe(0, 3), 9);
        x.sign(0, CUT, 4, 0);
        Due.due("cut, it goes on being late", x.owe(0, 4), -23);
        Due.due("hangs on the months ahead", x.owe(0, 3), 9);
        x.line(0, 1);
        x.line(1, 2);
        x.line(2, 3);
        Due.due("by the usual rule", x.owe(0, 3), 7);
    }

    private static void oweLimits() {
        CurrentFarms x = served(0, 120);
        Due.good(x, 0, "late=9999*10;rate=9999*10;fee=9999*10");
        Due.due("199980, a thousand times and once", x.owe(0, 0), 199980 + 199980L * 99990 / 100);
        Due.due("the most", x.owe(0, 1), 1000000000);
        Due.due("still the most", x.owe(0, 120), 1000000000);
        Due.good(x, 2, "late=0;rate=0;fee=0");
        x.pay(0, 2, 7);
        Due.due("less what was paid", x.owe(0, 2), 999999993);
        Due.good(x, 3, "serve=owed/9999/2");
        Due.due("owed is limited, too", x.force(4, 0, 3, 0), 50005);
        for (int m = 0; m < 120; m++) x.pay(1, m, 9999);
        Due.due("below 0", x.owe(1, 119), -1199880);
    }

    private static void refused() {
        CurrentFarms x = served(0, 3);
        for (int off : Due.OFF) {
            Due.due("read", x.read(off, 0, 0), Due.NONE);
            Due.due("read", x.read(0, off, 0), Due.NONE);
            Due.due("read", x.read(0, 0, off), Due.BAD);
            Due.due("units", x.units(off, 0), Due.NONE);
            Due.due("units", x.units(0, off), Due.NONE);
            Due.due("bill", x.bill(off, 0), Due.NONE);
            Due.due("bill", x.bill(0, off), Due.NONE);
            Due.due("owe", x.owe(off, 0), Due.NONE);
            Due.due("owe", x.owe(0, off), Due.NONE);
            Due.due("pay", x.pay(off, 0, 1), Due.NONE);
            Due.due("pay", x.pay(0, off, 1), Due.NONE);
            Due.due("pay", x.pay(0, 0, off), Due.BAD);
            Due.due("due", x.due(off), Due.NONE);
            Due.due("loan", x.loan(off, 0, 0, 1, 0), Due.BAD);
            Due.due("loan", x.loan(0, off, 0, 1, 0), Due.BAD);
            Due.due("loan", x.loan(0, 0, off, 1, 0), Due.BAD);
            Due.due("loan", x.loan(0, 0, 0, off, 0), Due.BAD);
            Due.due("loan", x.loan(0, 0, 0, 1, off), Due.BAD);
        }
        Due.due("units of month 4", x.units(0, 4), Due.NONE);
        Due.due("bill of month 4", x.bill(0, 4), Due.NONE);
        Due.due("owe of month 4", x.owe(0, 4), Due.NONE);
        Due.due("no loan came", x.cannot(), Due.STATE);
        Due.due("coins", x.loan(100000, 0, 0, 1, 0), Due.BAD);
        Due.due("month", x.loan(0, 121, 0, 1, 0), Due.BAD);
        Due.due("hundredths", x.loan(0, 0, 21, 1, 0), Due.BAD);
        Due.due("n 0", x.loan(0, 0, 0, 0, 0), Due.BAD);
        Due.due("n 61", x.loan(0, 0, 0, 61, 0), Due.BAD);
        Due.due("sum", x.loan(0, 0, 0, 1, 100000), Due.BAD);
        Due.due("all the most", x.loan(99999, 120, 20, 60, 99999), 1);
    }

    private static void loan() {
        CurrentFarms x = new CurrentFarms();
        Due.due("no loan", x.due(0), 0);
        Due.due("no loan", x.due(240), 0);
        Due.due("240 is the last", x.due(241), Due.NONE);
        Due.due("lent", x.loan(100, 10, 5, 3, 0), 1);
        Due.due("not yet", x.due(10), 0);
        Due.due("33 and 5", x.due(11), 38);
        Due.due("67 by 2 and 3", x.due(12), 36);
        Due.due("34 and 1", x.due(13), 35);
        Due.due("no more", x.due(14), 0);
        Due.due("another in its place", x.loan(99999, 120, 20, 60, 0), 1);
        Due.due("nothing of the old one", x.due(11), 0);
        Due.due("1666 and 19999", x.due(121), 21665);
        Due.due("the last: 1667 and 333", x.due(180), 2000);
        Due.due("behind it", x.due(181), 0);
        Due.due("no coins", x.loan(0, 0, 20, 1, 0), 1);
        Due.due("no coins are due", x.due(1), 0);
    }

    private static void cannot() {
        CurrentFarms x = new CurrentFarms();
        x.farm(1, 1);
        x.farm(2, 1);
        x.month(12);
        x.loan(100, 10, 5, 3, 0);
        Due.due("the first", x.cannot(), 11);
        x.pay(0, 9, 9999);
        Due.due("paid ahead of it", x.cannot(), 11);
        x.pay(0, 10, 30);
        x.pay(1, 10, 8);
        Due.due("38 of all, in its own month", x.cannot(), 12);
        x.pay(1, 12, 35);
        Due.due("one short", x.cannot(), 12);
        x.pay(1, 12, 1);
        Due.due("36 more", x.cannot(), 13);
        x.loan(100, 10, 5, 3, 34);
        Due.due("34 at its beginning: one short at last", x.cannot(), 13);
        x.loan(100, 10, 5, 3, 35);
        Due.due("never", x.cannot(), -5);
        x.loan(0, 10, 5, 3, 0);
        Due.due("nothing lent", x.cannot(), -5);
        x.loan(5, 100, 0, 1, 4);
        Due.due("in one month", x.cannot(), 101);
        x.loan(60, 120, 0, 60, 59);
        Due.due("its last month", x.cannot(), 180);
    }
}
