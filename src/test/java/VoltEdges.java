/** ==== 5, sentence by sentence: each limit from inside and from outside. */
public final class VoltEdges {
    private static final int SIGNED = 0, WAVERING = 1, SERVED = 2, CUT = 3, TAKEN = 4;

    public static void main(String[] args) {
        resistanceFrom1To9();
        noStretches();
        whoDraws();
        drawsNow();
        atTheHouse();
        cutDrawsAndDrops();
        noVoltsDrawNothing();
        settlesByNoMoreThan1();
        sweepsAre30AtMost();
        lostIsCut();
        lostIsLimited();
        linesChange();
        Due.end("edges of the volts");
    }

    /** A line to the right of THE HOUSE; SERVED FARMS told as CELL and LOAD. */
    private static CurrentFarms row(int stretches, int wire, int[] cells, int[] loads) {
        CurrentFarms x = new CurrentFarms();
        for (int i = 0; i < stretches; i++) x.line(i, i + 1);
        x.wire(wire);
        for (int i = 0; i < cells.length; i++) {
            x.farm(cells[i], loads[i]);
            x.sign(i, SERVED, 0, 0);
        }
        return x;
    }

    private static int[] of(int... n) {
        return n;
    }

    /** "RESISTANCE (1 .. 9; 2 at first, all alike)" */
    private static void resistanceFrom1To9() {
        CurrentFarms x = row(1, 2, of(1), of(10));
        Due.due("at first", new CurrentFarms().count(8), 2);
        for (int off : new int[] {0, 10, -1, Integer.MIN_VALUE, Integer.MAX_VALUE}) {
            Due.due("wire " + off, x.wire(off), Due.BAD);
        }
        int was = 2;
        for (int n = 1; n <= 9; n++) {
            Due.due("wire " + n, x.wire(n), was);
            Due.due("10 times " + n + " by 10", x.volt(1), 1000 - n);
            Due.due("lost: too little", x.lose(2), 0);
            was = n;
        }
        Due.due("9 again", x.wire(9), 9);
    }

    private static void noStretches() {
        CurrentFarms x = row(0, 9, of(0, 1), of(50, 50));
        Due.due("the house", x.volt(0), 1000);
        for (int c = 1; c < 48; c++) Due.due("no other", x.volt(c), Due.NONE);
        Due.due("one sweep", x.lose(0), 1);
        Due.due("it settles", x.lose(1), 1);
        Due.due("nothing is lost", x.lose(2), 0);
        for (int off : new int[] {-1, 3, Integer.MIN_VALUE, Integer.MAX_VALUE}) {
            Due.due("lose " + off, x.lose(off), Due.NONE);
        }
    }

    /** "each FARM that is SERVED or OWING NOW, on THE LINE" */
    private static void whoDraws() {
        for (int what = SIGNED; what <= TAKEN; what++) {
            CurrentFarms x = row(2, 4, of(), of());
            x.farm(2, 25);
            x.farm(1, 50);
            x.sign(1, CUT, 0, 0);
            x.sign(0, what, 0, 1);
            Due.due("one that is " + what, x.volt(2), what == SERVED ? 980 : 1000);
            Due.due("ahead of it", x.volt(1), what == SERVED ? 990 : 1000);
            x.pay(0, 0, 9999);
            Due.due("one that owes nothing", x.volt(2), what == SERVED ? 980 : 1000);
        }
        CurrentFarms off = row(2, 9, of(3, 9, 47), of(50, 50, 50));
        Due.due("farms off the line", off.volt(2), 1000);
        Due.due("one sweep", off.lose(0), 1);
        off.line(2, 3);
        Due.due("one comes on it", off.volt(3), 841);
    }

    private static void drawsNow() {
        CurrentFarms x = row(1, 4, of(), of());
        x.farm(1, 25);
        x.month(3);
        x.sign(0, SERVED, 1, 0);
        x.sign(0, CUT, 3, 0);
        Due.due("not any more", x.volt(1), 1000);
        x.strike(1);
        Due.due("still", x.volt(1), 990);
        x.sign(0, WAVERING, 2, 1);
        Due.due("not any more", x.volt(1), 1000);
        x.sign(0, SERVED, 3, 0);
        Due.due("again", x.volt(1), 990);
    }

    private static void atTheHouse() {
        CurrentFarms x = row(2, 9, of(0, 0), of(50, 50));
        Due.due("the house has 1000", x.volt(0), 1000);
        Due.due("what is drawn there comes by no stretch", x.volt(2), 1000);
        Due.due("nothing is lost", x.lose(2), 0);
        Due.due("one sweep", x.lose(0), 1);
    }

    /** "LOAD times 1000 by the VOLTS of its CELL (cut ..)", "by 10, cut" */
    private static void cutDrawsAndDrops() {
        CurrentFarms x = row(1, 1, of(1), of(9));
        Due.due("9 by 10 is 0", x.volt(1), 1000);
        Due.due("one sweep", x.lose(0), 1);
        x.wire(9);
        Due.due("81 by 10 is 8", x.volt(1), 992);
        Due.due("9000 by 992 is 9", x.lose(0), 2);
        CurrentFarms y = row(3, 1, of(1, 2, 3), of(9, 9, 9));
        Due.due("27 by 10", y.volt(1), 998);
        Due.due("18 by 10", y.volt(2), 997);
        Due.due("9 by 10", y.volt(3), 997);
        CurrentFarms z = row(1, 9, of(1, 1), of(4, 5));
        Due.due("each is cut for itself, and both come together", z.volt(1), 992);
    }

    /** "(.. 0 VOLTS or less: 0)" */
    private static void noVoltsDrawNothing() {
        int[] all = of(4, 4, 4, 4, 4, 4, 4, 4, 4, 4), most = of(50, 50, 50, 50, 50, 50, 50, 50, 50, 50);
        CurrentFarms x = row(4, 5, all, most);
        Due.due("750, 500, 250 and 0; then all 1000; and so on", x.lose(0), 30);
        Due.due("it doesn't settle", x.lose(1), 0);
        Due.due("the 30th has 1000", x.volt(4), 1000);
        Due.due("and loses nothing", x.lose(2), 0);
        x.wire(6);
        Due.due("-200; then 1000", x.volt(4), 1000);
        Due.due("nothing", x.lose(2), 0);
        CurrentFarms y = row(4, 7, of(1, 3, 4, 4), of(22, 43, 42, 24));
        Due.due("some other row ends with just 0", y.volt(4), 0);
        Due.due("drawn in the 30th", y.lose(2), 3669);
        CurrentFarms z = row(4, 9, of(1, 4, 4), of(7, 37, 44));
        Due.due("or with just 1", z.volt(4), 1);
        Due.due("drawn in the 30th", z.lose(2), 2782);
        CurrentFarms w = row(7, 9, of(4), of(7));
        w.line(7, 15);
        w.farm(15, 41);
        w.sign(1, SERVED, 0, 0);
        Due.due("0 in between draws nothing", w.volt(15), 944);
        Due.due("but what is ahead of it", w.lose(2), 9);
    }

    /** "They SETTLE when a SWEEP changes none by more than 1" */
    private static void settlesByNoMoreThan1() {
        CurrentFarms x = row(1, 6, of(1), of(1));
        Due.due("6 by 10: none by anything", x.lose(0), 1);
        CurrentFarms y = row(1, 1, of(1), of(10));
        Due.due("by 1 at once", y.lose(0), 1);
        Due.due("which counts", y.volt(1), 999);
        Due.due("it settles", y.lose(1), 1);
        CurrentFarms z = row(1, 1, of(1), of(20));
        Due.due("by 2 at first", z.lose(0), 2);
        CurrentFarms w = row(2, 1, of(2), of(10));
        Due.due("the last one by 2", w.lose(0), 2);
        Due.due("998", w.volt(2), 998);
        CurrentFarms v = row(1, 9, of(1), of(50));
        Due.due("by 45, then by 1", v.lose(0), 2);
        Due.due("954", v.volt(1), 954);
    }

    /** "30 SWEEPS at most (then they don't)" */
    private static void sweepsAre30AtMost() {
        CurrentFarms x = row(3, 6, of(2, 3, 3, 2), of(50, 46, 41, 48));
        Due.due("29", x.lose(0), 29);
        Due.due("settled", x.lose(1), 1);
        Due.due("lost", x.lose(2), 1800);
        Due.due("volts", x.volt(3), 452);
        CurrentFarms y = row(6, 9, of(4, 3, 3), of(34, 49, 6));
        Due.due("just 30", y.lose(0), 30);
        Due.due("settled by the last", y.lose(1), 1);
        Due.due("volts", y.volt(6), 443);
        CurrentFarms z = row(4, 9, of(4, 4), of(50, 41));
        Due.due("no more than 30", z.lose(0), 30);
        Due.due("not settled", z.lose(1), 0);
    }

    /** "RESISTANCE times the square of what it carries, all together by 1000, cut" */
    private static void lostIsCut() {
        CurrentFarms x = row(4, 2, of(3, 2), of(7, 8));
        Due.due("998 by 1000", x.lose(2), 0);
        CurrentFarms y = row(4, 9, of(1, 4), of(1, 5));
        Due.due("999 by 1000", y.lose(2), 0);
        CurrentFarms z = row(2, 1, of(2), of(50));
        Due.due("5000 by 1000", z.lose(2), 5);
        z.line(2, 3);
        Due.due("a stretch that carries nothing", z.lose(2), 5);
        CurrentFarms w = row(1, 1, of(1), of(32));
        Due.due("1024 by 1000", w.lose(2), 1);
        CurrentFarms v = row(1, 1, of(1), of(31));
        Due.due("961 by 1000", v.lose(2), 0);
    }

    /** "1000000000 at most (as of the last SWEEP)" */
    private static void lostIsLimited() {
        CurrentFarms x = row(7, 7, of(7, 6, 3, 3, 1, 2), of(40, 28, 35, 45, 40, 39));
        Due.due("below it", x.lose(2), 867118000);
        Due.due("far below 0", x.volt(7), -563200);
        CurrentFarms y = row(5, 8, of(5, 3, 3, 1, 2, 1, 5, 4, 3), of(42, 38, 26, 25, 29, 10, 26, 18, 28));
        Due.due("1160936000", y.lose(2), 1000000000);
    }

    /** All is found anew by each call. */
    private static void linesChange() {
        CurrentFarms x = row(3, 4, of(3), of(25));
        Due.due("three stretches", x.volt(3), 970);
        x.clear();
        Due.due("none", x.volt(3), Due.NONE);
        Due.due("nothing is lost", x.lose(2), 0);
        x.line(0, 1);
        x.line(1, 2);
        x.line(0, 8);
        Due.due("it is off the line", x.volt(2), 1000);
        x.line(2, 10);
        Due.due("still", x.volt(10), 1000);
        x.line(2, 3);
        Due.due("on it", x.volt(3), 970);
        Due.due("a branch", x.volt(10), 980);
        Due.due("another", x.volt(8), 1000);
        x.storm(1, 5);
        Due.due("breaks do not matter", x.volt(3), 970);
    }
}
