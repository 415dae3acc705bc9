/** ==== 6, sentence by sentence: each limit from inside and from outside. */
public final class CoinEdges {
    private static final int SIGNED = 0, WAVERING = 1, SERVED = 2, CUT = 3, TAKEN = 4;

    public static void main(String[] args) {
        readFrom0To9999();
        readOfServedOnes();
        monthsThatWentBy();
        theFirstReading();
        unitsAre0AtLeast();
        whatIsBelow0IsKept();
        guessedByTheMonths();
        none10();
        notServed0();
        theBill();
        paidFrom1To9999();
        lateAbove0();
        lateWithoutUnits();
        arrearsGoOn();
        arrearsAreLimited();
        loansLimits();
        dueInTheMonthsBehind();
        allIsPaidBack();
        dueFrom0To240();
        cannotBelow0();
        cannotSince();
        cannotUpToTheLast();
        Due.end("edges of the coins");
    }

    /** FARM 0 (LOAD 5) SERVED from a MONTH on, FARM 1 SIGNED; NOW is a MONTH. */
    private static CurrentFarms served(int from, int now) {
        CurrentFarms x = new CurrentFarms();
        x.farm(1, 5);
        x.farm(2, 6);
        x.month(now);
        x.sign(0, SERVED, from, 0);
        x.sign(1, SIGNED, 0, 0);
        return x;
    }

    /** "a number is READ (0 .. 9999 ..), or it wasn't" */
    private static void readFrom0To9999() {
        CurrentFarms x = served(0, 1);
        for (int off : new int[] {-1, 10000, Integer.MIN_VALUE, Integer.MAX_VALUE}) {
            Due.due("read " + off, x.read(0, 0, off), Due.BAD);
        }
        Due.due("it wasn't read", x.units(0, 0), 10);
        Due.due("0, ahead of it nothing", x.read(0, 0, 0), -5);
        Due.due("0 is something", x.units(0, 0), 0);
        Due.due("9999, ahead of it 0", x.read(0, 0, 9999), 0);
        Due.due("all of it", x.units(0, 0), 9999);
        Due.due("1, ahead of it 9999", x.read(0, 0, 1), 9999);
        Due.due("9999 in the next", x.read(0, 1, 9999), -5);
        Due.due("less the one", x.units(0, 1), 9998);
        Due.due("its bill", x.bill(0, 1), 2 * 9998 + 5);
    }

    /** "of a SERVED (or OWING) FARM"; "nothing is READ of them" */
    private static void readOfServedOnes() {
        for (int what = SIGNED; what <= TAKEN; what++) {
            CurrentFarms x = new CurrentFarms();
            x.farm(1, 5);
            Due.due("no entry", x.read(0, 0, 7), Due.STATE);
            x.sign(0, what, 0, 1);
            Due.due("one that is " + what, x.read(0, 0, 7), what == SERVED ? -5 : Due.STATE);
            x.pay(0, 0, 9999);
            Due.due("one that owes nothing", x.read(0, 0, 8), what == SERVED ? 7 : Due.STATE);
            Due.due("units", x.units(0, 0), what == SERVED ? 8 : 0);
        }
    }

    /** "in a MONTH that is NOW or earlier" */
    private static void monthsThatWentBy() {
        CurrentFarms x = served(0, 0);
        for (int now = 0; now <= 120; now += 60) {
            x.month(now);
            Due.due("read of now", x.read(0, now, now), -5);
            Due.due("paid now", x.pay(0, now, 5), 5);
            Due.due("units of now", x.units(0, now), now == 0 ? 0 : now == 60 ? 60 : 60 - 59);
            Due.due("bill of now", x.bill(0, now), now == 0 ? 5 : now == 60 ? 125 : 7);
            Due.due("owed now", Math.min(0, x.owe(0, now)), 0);
            Due.due("read of the next", x.read(0, now + 1, 1), Due.NONE);
            Due.due("paid in the next", x.pay(0, now + 1, 1), Due.NONE);
            Due.due("units of the next", x.units(0, now + 1), Due.NONE);
            Due.due("bill of the next", x.bill(0, now + 1), Due.NONE);
            Due.due("owed in the next", x.owe(0, now + 1), Due.NONE);
        }
        Due.due("read of -1", x.read(0, -1, 1), Due.NONE);
        Due.due("paid in -1", x.pay(0, -1, 1), Due.NONE);
        Due.due("units of -1", x.units(0, -1), Due.NONE);
        Due.due("bill of -1", x.bill(0, -1), Due.NONE);
        Due.due("owed in -1", x.owe(0, -1), Due.NONE);
        Due.due("the last farm's months are its own", x.units(1, 0), 0);
        Due.due("nothing was paid by it", x.pay(1, 0, 1), 1);
    }

    /** "less what was READ the last time ahead (0 at first), less what was guessed since" */
    private static void theFirstReading() {
        CurrentFarms x = served(3, 9);
        x.read(0, 3, 40);
        Due.due("0 at first", x.units(0, 3), 40);
        CurrentFarms y = served(3, 9);
        y.read(0, 5, 40);
        Due.due("less two guesses of 10", y.units(0, 5), 20);
        Due.due("guesses stay", y.units(0, 4), 10);
        CurrentFarms z = served(0, 120);
        z.read(0, 120, 1201);
        Due.due("less 120 guesses of 10", z.units(0, 120), 1);
        z.read(0, 120, 1200);
        Due.due("nothing more", z.units(0, 120), 0);
        z.read(0, 119, 1189);
        Due.due("one too little", z.units(0, 119), 0);
        Due.due("to be taken off", z.units(0, 120), 10);
    }

    /** "0 at least" */
    private static void unitsAre0AtLeast() {
        for (int n = 98; n <= 102; n++) {
            CurrentFarms x = served(0, 2);
            x.read(0, 0, 50);
            x.read(0, 2, n);
            Due.due(n + " less 50, less 50", x.units(0, 2), Math.max(0, n - 100));
            Due.due("bill", x.bill(0, 2), 5 + 2 * Math.max(0, n - 100));
        }
    }

    /** "what is below 0 is kept, to be taken off the next such" */
    private static void whatIsBelow0IsKept() {
        CurrentFarms x = served(0, 9);
        x.read(0, 0, 100);
        x.read(0, 1, 70);
        x.read(0, 2, 99);
        Due.due("30 below 0", x.units(0, 1), 0);
        Due.due("29 less 30: 1 is kept", x.units(0, 2), 0);
        Due.due("guessed of 0", x.units(0, 3), 0);
        x.read(0, 4, 100);
        Due.due("1 less 1", x.units(0, 4), 0);
        x.read(0, 5, 101);
        Due.due("nothing is kept any more", x.units(0, 5), 1);
        x.read(0, 2, 101);
        Due.due("31 less 30", x.units(0, 2), 1);
        Due.due("guessed of 1", x.units(0, 3), 1);
        Due.due("-1 less the guess: 2 below 0", x.units(0, 4), 0);
        Due.due("1 less 2", x.units(0, 5), 0);
        x.read(0, 6, 105);
        Due.due("4 less 1", x.units(0, 6), 3);
    }

    /** "UNITS of the last MONTH that was READ ahead, by the MONTHS from the one READ ahead of that to it (1, if there is none)" */
    private static void guessedByTheMonths() {
        CurrentFarms x = served(0, 30);
        x.read(0, 5, 100);
        Due.due("50 of the first one", x.units(0, 5), 50);
        Due.due("by 1", x.units(0, 6), 50);
        x.read(0, 6, 107);
        Due.due("by one month: 7", x.units(0, 7), 7);
        x.read(0, 8, 107 + 7 + 9);
        Due.due("9 by two", x.units(0, 9), 4);
        x.read(0, 11, 123 + 8 + 11);
        Due.due("11 by three", x.units(0, 12), 3);
        x.read(0, 21, 142 + 27 + 9);
        Due.due("9 by ten", x.units(0, 22), 0);
        x.read(0, 30, 178 + 9);
        Due.due("9", x.units(0, 30), 9);
        Due.due("as they were", x.units(0, 20), 3);
    }

    private static void none10() {
        CurrentFarms x = served(0, 120);
        Due.due("of month 0", x.units(0, 0), 10);
        Due.due("of month 120", x.units(0, 120), 10);
        x.read(0, 60, 605);
        Due.due("ahead of it", x.units(0, 59), 10);
        Due.due("5 of it", x.units(0, 60), 5);
        Due.due("behind it", x.units(0, 120), 5);
    }

    /** "Of MONTHS in which it is not SERVED or OWING: 0" */
    private static void notServed0() {
        CurrentFarms x = served(2, 9);
        x.sign(0, CUT, 5, 0);
        x.sign(0, SERVED, 7, 0);
        int[] due = {0, 0, 10, 10, 10, 0, 0, 10, 10, 10};
        for (int m = 0; m < 10; m++) {
            Due.due("units of " + m, x.units(0, m), due[m]);
            Due.due("bill of " + m, x.bill(0, m), due[m] == 0 ? 0 : 25);
            Due.due("of the other", x.units(1, m), 0);
            Due.due("its bill", x.bill(1, m), 0);
        }
        x.read(0, 9, 57);
        Due.due("less five guesses", x.units(0, 9), 7);
    }

    /** "BILL: rate (with units) and fee of THE RULE for it" */
    private static void theBill() {
        CurrentFarms x = served(0, 3);
        Due.good(x, 1, "rate=units*units;fee=units");
        Due.due("2 times 10 and 5", x.bill(0, 0), 25);
        Due.due("100 and 10", x.bill(0, 1), 110);
        x.read(0, 2, 9999);
        Due.due("99999 and 9979", x.bill(0, 2), 99999 + 9979);
        Due.good(x, 3, "rate=0-units;fee=0");
        Due.due("0 at least", x.bill(0, 3), 0);
        Due.due("the rule of then", x.bill(0, 1), 110);
    }

    /** "PAID: COINS (1 .. 9999) of a FARM in a MONTH" */
    private static void paidFrom1To9999() {
        CurrentFarms x = served(0, 120);
        for (int off : new int[] {0, 10000, -1, Integer.MIN_VALUE, Integer.MAX_VALUE}) {
            Due.due("pay " + off, x.pay(0, 0, off), Due.BAD);
        }
        Due.due("1", x.pay(0, 0, 1), 1);
        Due.due("9999", x.pay(0, 0, 9999), 10000);
        Due.due("1 more", x.pay(0, 0, 1), 10001);
        Due.due("in month 120", x.pay(0, 120, 9999), 9999);
        Due.due("by another in month 0", x.pay(1, 0, 2), 2);
        Due.due("as it was", x.pay(0, 120, 1), 10000);
        for (int i = 0; i < 400; i++) x.pay(1, 120, 9999);
        Due.due("four millions", x.pay(1, 120, 9999), 401 * 9999);
    }

    /** "what is above 0 is late hundredths more (cut ..)" */
    private static void lateAbove0() {
        int[] lates = {0, 9, 10, 50, 99, 100, 101, 99999};
        for (int late : lates) {
            CurrentFarms x = served(0, 0);
            Due.good(x, 0, "late=" + (late < 10000 ? "" + late : "9999*11"));
            Due.due("25 by " + late, x.owe(0, 0), 25 + 25 * late / 100);
            x.pay(0, 0, 15);
            Due.due("10 by " + late, x.owe(0, 0), 10 + 10 * late / 100);
            x.pay(0, 0, 9);
            Due.due("1 by " + late, x.owe(0, 0), 1 + late / 100);
            x.pay(0, 0, 1);
            Due.due("0 by " + late, x.owe(0, 0), 0);
            x.pay(0, 0, 1);
            Due.due("-1 by " + late, x.owe(0, 0), -1);
            x.pay(0, 0, 999);
            Due.due("-1000 by " + late, x.owe(0, 0), -1000);
        }
        CurrentFarms y = served(0, 0);
        y.pay(0, 0, 15);
        Due.due("10 and 1", y.owe(0, 0), 11);
        y.pay(0, 0, 1);
        Due.due("9 and 0.9", y.owe(0, 0), 9);
    }

    /** "units: of the bill (its rate and fee; .. 0 else)" */
    private static void lateWithoutUnits() {
        CurrentFarms x = served(0, 1);
        Due.good(x, 0, "late=units*100");
        Due.due("late by 0", x.owe(0, 0), 25);
        Due.good(x, 0, "late=load*20+kind*100+owed");
        Due.due("100 of load, 300 of kind, 0 of owed", x.owe(0, 0), 25 + 100);
        Due.due("150 by 100, 300 and 125", x.owe(0, 1), 150 + 150 * 525 / 100);
    }

    /** "those behind the one ahead (0 ahead of MONTH 0)" */
    private static void arrearsGoOn() {
        CurrentFarms x = served(1, 4);
        Due.due("none ahead of it", x.owe(0, 0), 0);
        Due.due("27", x.owe(0, 1), 27);
        Due.due("52 and 5", x.owe(0, 2), 57);
        x.sign(0, CUT, 3, 0);
        Due.due("57 and 5, and no bill", x.owe(0, 3), 62);
        x.pay(0, 3, 58);
        Due.due("-1", x.owe(0, 3), -1);
        Due.due("-1 may be answered, too", x.owe(0, 4), -1);
        x.pay(0, 0, 10);
        Due.due("paid ahead of all", x.owe(0, 0), -10);
        Due.due("15 and 1", x.owe(0, 1), 16);
        Due.due("41 and 4", x.owe(0, 2), 45);
        Due.due("-13", x.owe(0, 4), -13);
        Due.due("another farm", x.owe(1, 4), 0);
    }

    /** "ARREARS .. (limited to 1000000000 either way)" */
    private static void arrearsAreLimited() {
        CurrentFarms x = served(0, 120);
        Due.good(x, 0, "rate=9999*10;fee=10;late=0");
        Due.due("100000", x.owe(0, 0), 100000);
        Due.good(x, 1, "rate=0;fee=0;late=9999*11");
        Due.due("100 millions and 100000 less a thousandth", x.owe(0, 1), 100000 + 100000L * 99999 / 100);
        Due.due("the most", x.owe(0, 2), 1000000000);
        Due.due("still", x.owe(0, 120), 1000000000);
        Due.good(x, 2, "late=890");
        long open = 100000 + 100000L * 99999 / 100;
        Due.due("just below it", x.owe(0, 2), open + open * 890 / 100);
        Due.good(x, 2, "late=900");
        Due.due("just above it", x.owe(0, 2), 1000000000);
        Due.good(x, 3, "late=0");
        Due.due("it goes on from the most", x.owe(0, 3), 1000000000);
        x.pay(0, 3, 1);
        Due.due("less one", x.owe(0, 3), 999999999);
        Due.due("owing", x.as(0, 120, -1), 4);
    }

    /** "BAD: coins, month (0 .. 120), hundredths, n, sum (0 .. 99999)" */
    private static void loansLimits() {
        CurrentFarms x = new CurrentFarms();
        Due.due("the least", x.loan(0, 0, 0, 1, 0), 1);
        Due.due("nothing is due", x.due(1), 0);
        Due.due("never", x.cannot(), -5);
        Due.due("the most", x.loan(99999, 120, 20, 60, 99999), 1);
        Due.due("its first", x.due(121), 1666 + 19999);
        int[] good = {100, 0, 0, 1, 0}, least = {0, 0, 0, 1, 0}, most = {99999, 120, 20, 60, 99999};
        for (int i = 0; i < 5; i++) {
            for (int side = 0; side < 2; side++) {
                int[] a = good.clone();
                a[i] = side == 0 ? least[i] - 1 : most[i] + 1;
                Due.due("number " + i + " is " + a[i], x.loan(a[0], a[1], a[2], a[3], a[4]), Due.BAD);
                Due.due("the loan stays", x.due(121), 1666 + 19999);
                a[i] = side == 0 ? least[i] : most[i];
                CurrentFarms y = new CurrentFarms();
                Due.due("number " + i + " is " + a[i], y.loan(a[0], a[1], a[2], a[3], a[4]), 1);
            }
        }
    }

    /** "due is in each of the n MONTHS behind it what is left by the MONTHS left, cut, and hundredths of what is left, cut" */
    private static void dueInTheMonthsBehind() {
        CurrentFarms x = new CurrentFarms();
        x.loan(1000, 10, 7, 3, 0);
        int[] due = {0, 0, 333 + 70, 333 + 46, 334 + 23, 0, 0};
        for (int i = 0; i < 7; i++) Due.due("month " + (9 + i), x.due(9 + i), due[i]);
        x.loan(1000, 0, 0, 1, 0);
        Due.due("not in its own month", x.due(0), 0);
        Due.due("all at once", x.due(1), 1000);
        Due.due("no more", x.due(2), 0);
        x.loan(5, 0, 20, 10, 0);
        int[] few = {0, 1, 1, 1, 1, 1, 1 + 1, 1 + 0, 1, 1, 1, 0};
        for (int m = 0; m < 12; m++) Due.due("5 in ten months, month " + m, x.due(m), few[m]);
    }

    /** "that first part is then no more left" */
    private static void allIsPaidBack() {
        int[][] loans = {{99999, 60}, {1, 60}, {59, 60}, {60, 60}, {61, 60}, {99999, 7}, {12345, 13}, {0, 5}};
        for (int[] l : loans) {
            CurrentFarms x = new CurrentFarms();
            x.loan(l[0], 120, 0, l[1], 0);
            int all = 0;
            for (int m = 121; m <= 120 + l[1]; m++) all += x.due(m);
            Due.due(l[0] + " in " + l[1], all, l[0]);
            Due.due("no more", x.due(121 + l[1]), 0);
        }
    }

    /** "What is due of THE LOAN in a MONTH (0 .. 240)" */
    private static void dueFrom0To240() {
        CurrentFarms x = new CurrentFarms();
        for (int pass = 0; pass < 2; pass++) {
            Due.due("0", x.due(0), 0);
            Due.due("240", x.due(240), 0);
            for (int m : new int[] {-1, 241, Integer.MIN_VALUE, Integer.MAX_VALUE}) {
                Due.due("due " + m, x.due(m), Due.NONE);
            }
            x.loan(60, 120, 0, 60, 0);
        }
        Due.due("the last month that can be", x.due(180), 1);
        Due.due("the next", x.due(181), 0);
    }

    /** "CAN'T: the first MONTH from it on in which .. is below 0"; "-5: never" */
    private static void cannotBelow0() {
        CurrentFarms x = new CurrentFarms();
        Due.due("no loan", x.cannot(), Due.STATE);
        for (int sum = 98; sum <= 102; sum++) {
            x.loan(100, 3, 0, 4, sum);
            Due.due("100 of " + sum, x.cannot(), sum < 100 ? 7 : -5);
        }
        int[] sums = {0, 24, 25, 49, 50, 74, 75, 99, 100};
        int[] due = {4, 4, 5, 5, 6, 6, 7, 7, -5};
        for (int i = 0; i < 9; i++) {
            x.loan(100, 3, 0, 4, sums[i]);
            Due.due("25 each of " + sums[i], x.cannot(), due[i]);
        }
        x.loan(0, 0, 20, 60, 0);
        Due.due("of nothing", x.cannot(), -5);
    }

    /** "what was PAID by all FARMS since" */
    private static void cannotSince() {
        CurrentFarms x = new CurrentFarms();
        for (int f = 0; f < 10; f++) x.farm(f, 1);
        x.month(6);
        x.loan(100, 3, 0, 2, 0);
        x.pay(0, 2, 9999);
        Due.due("paid ahead of it", x.cannot(), 4);
        x.pay(9, 3, 49);
        Due.due("one short", x.cannot(), 4);
        x.pay(0, 4, 1);
        Due.due("paid in the month itself", x.cannot(), 5);
        x.pay(5, 6, 9999);
        Due.due("paid too late", x.cannot(), 5);
        x.pay(5, 5, 49);
        Due.due("one short", x.cannot(), 5);
        x.pay(6, 3, 1);
        Due.due("enough", x.cannot(), -5);
        x.sign(6, TAKEN, 0, 0);
        Due.due("by whomever", x.cannot(), -5);
    }

    /** "up to its last MONTH" */
    private static void cannotUpToTheLast() {
        CurrentFarms x = new CurrentFarms();
        x.loan(60, 120, 0, 60, 59);
        Due.due("the last of all", x.cannot(), 180);
        x.loan(60, 120, 0, 60, 60);
        Due.due("never", x.cannot(), -5);
        x.loan(1, 0, 0, 60, 0);
        Due.due("1 by 60 is due at last", x.cannot(), 60);
        x.loan(99999, 120, 20, 60, 99999);
        int all = 99999, m = 120;
        while (all >= 0) {
            m++;
            all -= x.due(m);
        }
        Due.due("the most", x.cannot(), m);
    }
}
