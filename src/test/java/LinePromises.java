/** Promises 16 to 23: line, clear, best, mile, span, pole, left, next. */
public final class LinePromises {
    private static final int SIGNED = 0, WAVERING = 1, SERVED = 2, CUT = 3, TAKEN = 4;

    public static void main(String[] args) {
        line();
        clear();
        best();
        bestRefused();
        mile();
        span();
        pole();
        left();
        nextCost();
        nextBrought();
        nextWay();
        nextRefused();
        otherHouse();
        Due.end("line");
    }

    /** Tells a way of STRETCHES from CELL to CELL. */
    private static CurrentFarms lines(CurrentFarms x, int... cells) {
        for (int i = 1; i < cells.length; i++) x.line(cells[i - 1], cells[i]);
        return x;
    }

    private static void line() {
        CurrentFarms x = new CurrentFarms();
        x.land(3, 1, 3);
        Due.due("not from the house", x.line(1, 2), Due.STATE);
        Due.due("to the house", x.line(1, 0), Due.STATE);
        Due.due("from the house", x.line(0, 1), 1);
        Due.due("on", x.line(1, 2), 2);
        Due.due("to water", x.line(2, 3), Due.STATE);
        Due.due("from water", x.line(3, 4), Due.STATE);
        Due.due("back", x.line(2, 1), Due.STATE);
        Due.due("again", x.line(1, 2), Due.STATE);
        Due.due("a branch", x.line(1, 9), 3);
        Due.due("no ring", x.line(9, 10), 4);
        Due.due("no ring", x.line(2, 10), Due.STATE);
        Due.due("no cell a", x.line(48, 0), Due.NONE);
        Due.due("no cell b", x.line(0, -1), Due.NONE);
        Due.due("not beside, ahead of state", x.line(20, 22), Due.BAD);
        Due.due("cell 7 and cell 8", x.line(7, 8), Due.BAD);
        Due.due("itself", x.line(0, 0), Due.BAD);
        Due.due("stretches", x.count(5), 4);

        CurrentFarms all = new CurrentFarms();
        for (int r = 0; r < 6; r++) {
            if (r > 0) all.line(8 * r - 8, 8 * r);
            for (int c = 1; c < 8; c++) all.line(8 * r + c - 1, 8 * r + c);
        }
        Due.due("all cells", all.count(5), 47);
    }

    private static void clear() {
        CurrentFarms x = lines(new CurrentFarms(), 0, 1, 2);
        x.storm(2, 5);
        Due.due("cleared", x.clear(), 2);
        Due.due("nothing left", x.clear(), 0);
        Due.due("no breaks", x.count(6), 0);
        Due.due("the house stays", x.volt(0), 1000);
        Due.due("off the line", x.volt(1), Due.NONE);
        Due.due("another line", x.line(0, 8), 1);
    }

    private static void best() {
        CurrentFarms x = new CurrentFarms();
        x.house(9);
        x.farm(11, 1);
        x.farm(25, 1);
        x.farm(27, 1);
        x.farm(9, 1);
        x.farm(11, 1);
        Due.due("none", x.best(0), 0);
        Due.due("at the house", x.best(8), 0);
        Due.due("one", x.best(1), 20);
        Due.due("two in one cell", x.best(17), 20);
        Due.due("two", x.best(3), 40);
        Due.due("three corners", x.best(7), 60);
        x.land(18, 1, 2);
        Due.due("a road in the middle: the tree forks there", x.best(7), 4 * 10 + 2 * 6);
        x.line(9, 1);
        Due.due("the line does not matter", x.best(1), 20);
        Due.due("it makes no line", x.count(5), 1);
        for (int c : new int[] {19, 26, 28, 35}) x.land(c, 1, 3);
        Due.due("an island", x.best(4), -5);
        Due.due("with others", x.best(7), -5);
        Due.due("without it", x.best(3), 40);
    }

    private static void bestRefused() {
        CurrentFarms x = new CurrentFarms();
        Due.due("no farms", x.best(1), Due.BAD);
        for (int i = 0; i < 9; i++) x.farm(i, 1);
        Due.due("farm 9", x.best(512), Due.BAD);
        Due.due("below 0", x.best(-1), Due.BAD);
        Due.due("the lowest", x.best(Integer.MIN_VALUE), Due.BAD);
        Due.due("seven", x.best(127), Due.BAD);
        Due.due("six", x.best(63), 50);
        Due.due("six others", x.best(0x1F8), 80);
    }

    private static void mile() {
        CurrentFarms x = new CurrentFarms();
        Due.due("none are enough for no line", x.mile(0), 1);
        Due.due("no stretches", x.mile(1), 0);
        x.farm(0, 1);
        x.farm(2, 1);
        x.farm(3, 1);
        for (int f = 0; f < 3; f++) x.sign(f, f, 0, 1);
        Due.due("a member at the house", x.mile(2), 1);
        lines(x, 0, 1, 2, 10);
        Due.due("stretches", x.mile(1), 3);
        Due.due("a waverer that counts, but none off the line", x.mile(2), 2);
        Due.due("3 times 3 by 10", x.mile(0), 1);
        Due.due("cost", x.mile(3), 30);
        x.land(1, 0, 5);
        Due.due("cost of the land as it is", x.mile(3), 50);
        Due.good(x, 0, "mile=9");
        Due.due("27 by 10", x.mile(0), 1);
        Due.good(x, 0, "mile=10");
        Due.due("30 by 10", x.mile(0), 0);
        x.line(2, 3);
        Due.due("40 by 10, and three", x.mile(0), 0);
        Due.good(x, 0, "mile=9");
        Due.due("36 by 10, and three", x.mile(0), 1);
        x.month(1);
        x.sign(1, TAKEN, 1, 0);
        Due.due("two of them", x.mile(0), 0);
        Due.due("two of them", x.mile(2), 2);
        for (int off : Due.OFF) Due.due("what", x.mile(off), Due.NONE);
        Due.due("what 4", x.mile(4), Due.NONE);
        Due.due("what -1", x.mile(-1), Due.NONE);
    }

    private static void span() {
        CurrentFarms x = new CurrentFarms();
        Due.due("at first", x.span(5), 3);
        Due.due("then", x.span(1), 5);
        Due.due("0", x.span(0), Due.BAD);
        Due.due("6", x.span(6), Due.BAD);
        Due.due("far off", x.span(Integer.MIN_VALUE), Due.BAD);
        Due.due("it stayed", x.count(7), 1);
    }

    private static void pole() {
        CurrentFarms x = new CurrentFarms();
        x.farm(0, 1);
        x.farm(7, 1);
        x.farm(20, 1);
        Due.due("in the house's cell", x.pole(0), 1);
        Due.due("not on the line", x.pole(1), Due.STATE);
        lines(x, 0, 1, 2, 3, 4, 5, 6, 7);
        int[] due = {8, 5, 4, 3, 3};
        for (int n = 1; n <= 5; n++) {
            x.span(n);
            Due.due("span " + n, x.pole(1), due[n - 1]);
        }
        x.land(3, 0, 2);
        Due.due("over a hill", x.pole(1), 3);
        x.land(0, 0, 1);
        Due.due("a hill higher than both", x.pole(1), 3);
        x.land(4, 0, 9);
        Due.due("no cell between is higher than both", x.pole(1), 3);
        x.land(1, 0, 9);
        Due.due("a hill as high as a pole's is not higher", x.pole(1), 3);
        x.land(4, 0, 0);
        x.land(6, 0, 5);
        Due.due("0, 1, 6, 7", x.pole(1), 4);
        x.land(1, 0, 5);
        Due.due("0, 1, 6, 7, as 1 is higher than 0 and 5", x.pole(1), 4);
        x.land(0, 0, 5);
        Due.due("as high as an end is not higher", x.pole(1), 4);
        x.land(7, 0, 5);
        Due.due("nor at the other end", x.pole(1), 3);
        Due.due("still not on the line", x.pole(2), Due.STATE);
        Due.due("no farm", x.pole(3), Due.NONE);
        Due.due("no farm", x.pole(-1), Due.NONE);
    }

    private static void left() {
        CurrentFarms x = new CurrentFarms();
        for (int i = 0; i < 6; i++) x.farm(i, 1);
        x.month(2);
        for (int f = 0; f < 5; f++) x.sign(f, f, 0, 2);
        Due.due("signed, counting, served, cut; not at the house", x.left(), 14);
        lines(x, 0, 1, 2);
        Due.due("off the line", x.left(), 8);
        x.sign(5, SIGNED, 2, 0);
        Due.due("one more", x.left(), 40);
        x.sign(3, TAKEN, 2, 0);
        Due.due("one is gone", x.left(), 32);
    }

    private static void nextCost() {
        CurrentFarms x = new CurrentFarms();
        x.farm(3, 1);
        x.farm(47, 1);
        x.sign(0, SIGNED, 0, 0);
        x.sign(1, CUT, 0, 0);
        Due.due("from the house", x.next(0, 0), 30);
        lines(x, 0, 8, 9, 10);
        Due.due("from the line", x.next(0, 0), 20);
        x.land(11, 1, 2);
        Due.due("by a road", x.next(0, 0), 12);
        x.land(46, 1, 3);
        x.land(39, 1, 3);
        Due.due("none leads", x.next(1, 0), -5);
        Due.due("it is not brought in", x.next(1, 1), 0);
        Due.due("no signs help", x.next(1, 2), -5);
    }

    private static void nextBrought() {
        CurrentFarms x = new CurrentFarms();
        x.month(1);
        for (int cell : new int[] {4, 3, 3, 2, 0, 9}) x.farm(cell, 1);
        x.sign(0, SIGNED, 0, 0);
        Due.due("cost", x.next(0, 0), 40);
        Due.due("20 for itself are too few", x.next(0, 1), 0);
        Due.due("one more is enough", x.next(0, 2), 1);
        x.sign(1, WAVERING, 0, 9);
        Due.due("a wavering one is none", x.next(0, 2), 1);
        x.sign(3, SERVED, 0, 0);
        Due.due("two", x.next(0, 1), 1);
        Due.due("no more", x.next(0, 2), 0);
        x.land(4, 0, 9);
        Due.due("58 of 40", x.next(0, 2), 1);
        x.land(1, 0, 9);
        Due.due("around the hill", x.next(0, 0), 5 * 10 + 28);
        x.land(10, 1, 3);
        x.land(11, 1, 3);
        x.land(12, 1, 3);
        x.land(5, 1, 3);
        Due.due("over the hill", x.next(0, 0), 94);
        Due.due("94 by 20: five, and four are there", x.next(0, 2), -5);
        Due.good(x, 1, "serve=14+kind-1+miles");
        Due.due("and 14", x.next(0, 2), 2);
        Due.good(x, 1, "serve=53");
        Due.due("one coin short", x.next(0, 2), 1);
        Due.good(x, 1, "serve=54");
        Due.due("no coin short", x.next(0, 1), 1);
        Due.good(x, 1, "serve=9999*9999");
        Due.due("a lot", x.next(0, 2), 0);
        Due.good(x, 1, "serve=54-units");
        Due.due("units are 0", x.next(0, 1), 1);
        x.line(0, 8);
        Due.due("a new stretch", x.left(), 9);
    }

    /** Of ways of like cost the one whose cells are less counts: its members count. */
    private static void nextWay() {
        CurrentFarms x = new CurrentFarms();
        x.farm(9, 1);
        x.farm(1, 1);
        x.farm(8, 1);
        x.sign(0, SIGNED, 0, 0);
        Due.due("cell 1 is less than cell 8", x.next(0, 1), 1);
        CurrentFarms y = new CurrentFarms();
        y.farm(18, 1);
        y.farm(16, 1);
        y.farm(2, 1);
        y.sign(0, SIGNED, 0, 0);
        y.sign(1, SIGNED, 0, 0);
        Due.due("by 10 and 2: no member on it", y.next(0, 1), 0);
        Due.due("one of farm 2", y.next(0, 2), 1);
        y.sign(2, SIGNED, 0, 0);
        Due.due("by 2, which is one", y.next(0, 1), 1);
        y.sign(2, CUT, 0, 0);
        y.land(2, 0, 1);
        Due.due("by 9 now", y.next(0, 1), 0);
        Due.due("none other is there", y.next(0, 2), -5);
    }

    /** FARM 0 is no MEMBER, and THE HOUSE not in CELL 0. */
    private static void otherHouse() {
        CurrentFarms x = new CurrentFarms();
        x.house(20);
        x.farm(21, 1);
        x.farm(22, 1);
        x.farm(0, 1);
        x.sign(1, SIGNED, 0, 0);
        Due.due("left", x.left(), 2);
        Due.due("farm 0 had to sign, too, for 20 of 20", x.next(1, 2), 0);
        x.land(21, 0, 1);
        Due.due("24 of 20", x.next(1, 2), 1);
        lines(x, 20, 12, 4);
        Due.due("cell 0 is not on it", x.volt(0), Due.NONE);
        Due.due("from 20 still", x.next(1, 0), 24);
        x.sign(2, SIGNED, 0, 0);
        Due.due("cell 0 is left", x.left(), 6);
        Due.due("none on the line", x.mile(2), 0);
        lines(x, 20, 21, 22);
        Due.due("one of them", x.mile(2), 1);
        Due.due("a pole on the hill", x.pole(1), 3);
        Due.due("one stretch", x.pole(0), 2);
    }

    private static void nextRefused() {
        CurrentFarms x = new CurrentFarms();
        x.farm(1, 1);
        x.farm(2, 1);
        x.sign(1, SIGNED, 0, 0);
        for (int off : Due.OFF) {
            Due.due("farm", x.next(off, 0), Due.NONE);
            Due.due("what", x.next(1, off), Due.NONE);
        }
        Due.due("farm 2", x.next(2, 0), Due.NONE);
        Due.due("what 3, ahead of state", x.next(0, 3), Due.NONE);
        Due.due("no member", x.next(0, 0), Due.STATE);
        lines(x, 0, 1, 2);
        Due.due("on the line", x.next(1, 0), Due.STATE);
    }
}
