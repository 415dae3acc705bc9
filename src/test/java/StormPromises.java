/** Promises 35 to 39: storm, order, fix, spite, tried. */
public final class StormPromises {
    private static final int SIGNED = 0, WAVERING = 1, SERVED = 2, TAKEN = 4;

    public static void main(String[] args) {
        storm();
        order();
        orderTies();
        fix();
        otherHouse();
        spite();
        spiteByRules();
        triedEnough();
        triedCost();
        triedBills();
        triedRefused();
        Due.end("storms");
    }

    /** A line from THE HOUSE in CELL 0 to the right, n STRETCHES long. */
    private static CurrentFarms row(int n) {
        CurrentFarms x = new CurrentFarms();
        for (int i = 0; i < n; i++) x.line(i, i + 1);
        return x;
    }

    private static void storm() {
        CurrentFarms x = row(7);
        Due.due("no cell ahead of hours", x.storm(48, 0), Due.NONE);
        Due.due("no cell", x.storm(-1, 1), Due.NONE);
        Due.due("hours ahead of state", x.storm(0, 0), Due.BAD);
        Due.due("21 hours", x.storm(1, 21), Due.BAD);
        Due.due("the house hangs on none", x.storm(0, 1), Due.STATE);
        Due.due("off the line", x.storm(8, 1), Due.STATE);
        for (int i = 1; i <= 6; i++) Due.due("break", x.storm(i, i == 1 ? 1 : 20), i);
        Due.due("down already, ahead of full", x.storm(6, 1), Due.STATE);
        Due.due("full", x.storm(7, 1), Due.FULL);
        Due.due("breaks", x.count(6), 6);
        for (int off : Due.OFF) {
            Due.due("cell", x.storm(off, 1), Due.NONE);
            Due.due("hours", x.storm(7, off), Due.BAD);
            Due.due("i", x.order(off), Due.NONE);
        }
    }

    private static void order() {
        CurrentFarms x = row(4);
        x.line(0, 8);
        x.line(8, 16);
        x.farm(4, 3);
        x.farm(16, 10);
        x.farm(2, 50);
        Due.due("no breaks, no milk", x.order(-1), 0);
        Due.due("no break 0", x.order(0), Due.NONE);
        x.sign(0, SERVED, 0, 0);
        x.sign(1, SERVED, 0, 0);
        x.sign(2, SIGNED, 0, 0);
        x.storm(3, 4);
        x.storm(1, 2);
        x.storm(16, 7);
        Due.due("16 first: 7 times 10, 13 times 3", x.order(-1), 109);
        int[] due = {16, 3, 1};
        for (int i = 0; i < 3; i++) Due.due("break " + i, x.order(i), due[i]);
        Due.due("no break 3", x.order(3), Due.NONE);
        x.sign(2, SERVED, 0, 0);
        Due.due("1, 16, 3: 2 times 50, 9 times 10, 13 times 3", x.order(-1), 229);
        Due.due("1 now is the first", x.order(0), 1);
        Due.due("16", x.order(1), 16);
        Due.due("3", x.order(2), 3);
        x.farm(30, 50);
        x.sign(3, SERVED, 0, 0);
        Due.due("one off the line loses none", x.order(-1), 229);
    }

    private static void orderTies() {
        CurrentFarms x = row(6);
        for (int c : new int[] {5, 2, 6, 1, 3, 4}) x.storm(c, 20);
        Due.due("nobody is dark", x.order(-1), 0);
        int[] told = {5, 2, 6, 1, 3, 4};
        for (int i = 0; i < 6; i++) Due.due("as told", x.order(i), told[i]);
        x.farm(2, 50);
        x.sign(0, SERVED, 0, 0);
        Due.due("40 hours of 50", x.order(-1), 2000);
        int[] due = {2, 1, 5, 6, 3, 4};
        for (int i = 0; i < 6; i++) Due.due("those on its way, then as told", x.order(i), due[i]);
    }

    private static void fix() {
        CurrentFarms x = row(3);
        Due.due("none", x.fix(), 0);
        x.storm(1, 3);
        x.storm(2, 3);
        Due.due("two", x.fix(), 2);
        Due.due("none now", x.count(6), 0);
        Due.due("down once more", x.storm(2, 3), 1);
        x.farm(1, 9);
        x.farm(3, 5);
        x.sign(0, SERVED, 0, 0);
        x.sign(1, SERVED, 0, 0);
        x.storm(1, 1);
        Due.due("both are dark", x.order(-1), 1 * 9 + 4 * 5);
        x.fix();
        x.storm(3, 2);
        Due.due("farm 0 is dark no more", x.order(-1), 2 * 5);
    }

    /** THE HOUSE in another CELL, whose way has none of CELL 0. */
    private static void otherHouse() {
        CurrentFarms x = new CurrentFarms();
        x.house(20);
        x.line(20, 12);
        x.line(12, 4);
        x.line(20, 28);
        for (int c : new int[] {0, 4, 28, 20}) x.farm(c, 7);
        for (int f = 0; f < 4; f++) x.sign(f, SERVED, 0, 0);
        Due.due("the way from 4 to 28", x.spite(4, 28, 0), 3);
        Due.due("the way from 12 to 4", x.spite(12, 4, 0), 1);
        Due.due("from the house", x.spite(20, 20, 0), 1);
        x.storm(4, 2);
        x.storm(28, 3);
        Due.due("4, then 28", x.order(-1), 2 * 7 + 5 * 7);
        Due.due("4", x.order(0), 4);
        x.fix();
        for (int[] s : new int[][] {{20, 19}, {19, 18}, {18, 17}, {17, 16}, {16, 8}, {8, 0}}) x.line(s[0], s[1]);
        Due.due("cell 0 is down", x.storm(0, 2), 1);
        Due.due("farm 0 alone is dark", x.order(-1), 2 * 7);

        CurrentFarms y = new CurrentFarms();
        y.house(20);
        for (int c : new int[] {0, 22, 14, 1, 38}) y.farm(c, 7);
        for (int f = 1; f < 5; f++) y.sign(f, SIGNED, 0, 0);
        Due.due("22 by 21 (20), 14 by 22 (10), 1 by 4 more (50), 38 by 30 (20)", Due.tried(y, 1, "serve=30"), 100);
        Due.due("1 is too far", Due.tried(y, 1, "serve=29"), 50);
        Due.due("22 for nothing but its own 20", Due.tried(y, 1, "serve=0-units"), 50);
        Due.due("units are 0", Due.tried(y, 1, "serve=30-units*9"), 100);
        y.farm(28, 7);
        Due.due("no member is not brought in", Due.tried(y, 1, "serve=30"), 100);
        y.sign(0, SIGNED, 0, 0);
        Due.due("0 first, by 60, then 1 for nothing, 22, 14 and 38", Due.tried(y, 1, "serve=20"), 60 + 50);
    }

    private static void spite() {
        CurrentFarms x = row(3);
        x.line(1, 9);
        x.line(9, 17);
        int[] cells = {17, 3, 1, 0, 9, 2, 40};
        for (int c : cells) x.farm(c, 1);
        Due.due("from 17 to 3: by 9, 1, 2", x.spite(17, 3, 0), 5);
        Due.due("back", x.spite(3, 17, 0), 5);
        Due.due("from 9 up to 1", x.spite(9, 1, 0), 2);
        Due.due("from 1 down to 17", x.spite(1, 17, 0), 3);
        Due.due("from the house", x.spite(0, 3, 0), 4);
        Due.due("one cell", x.spite(9, 9, 0), 1);
        x.sign(2, TAKEN, 0, 0);
        Due.due("one is gone already", x.spite(17, 3, 0), 4);
        Due.due("5 times 3 by 10: one; none is a member", x.spite(17, 3, 1), 1);
        x.sign(3, SERVED, 0, 0);
        Due.due("one at the house", x.spite(17, 3, 1), 0);
        Due.due("it would be taken", x.spite(17, 0, 1), 1);
        x.sign(0, WAVERING, 0, 1);
        Due.due("a waverer counts", x.spite(9, 3, 1), 0);
        Due.due("as it waits for the one that goes", x.spite(0, 3, 1), 1);
        Due.due("nothing is changed", x.as(3, 0, -1), 4);
        for (int off : Due.OFF) {
            Due.due("a", x.spite(off, 0, 0), Due.NONE);
            Due.due("b", x.spite(0, off, 0), Due.NONE);
            Due.due("what", x.spite(0, 0, off), Due.NONE);
        }
        Due.due("what 2 ahead of state", x.spite(40, 0, 2), Due.NONE);
        Due.due("a off the line", x.spite(40, 0, 0), Due.STATE);
        Due.due("b off the line", x.spite(0, 40, 0), Due.STATE);
    }

    private static void spiteByRules() {
        CurrentFarms x = row(4);
        x.month(2);
        for (int c : new int[] {1, 2, 3, 4}) x.farm(c, 10 * c);
        x.sign(0, SERVED, 0, 0);
        x.sign(1, SIGNED, 0, 0);
        x.sign(2, SERVED, 1, 0);
        x.sign(3, SERVED, 2, 0);
        Due.good(x, 2, "take=kind-1");
        Due.due("served ones stay", x.spite(0, 4, 0), 1);
        Due.good(x, 2, "take=owed");
        Due.due("those that owe stay", x.spite(0, 4, 0), 2);
        Due.good(x, 2, "take=miles/4+units");
        Due.due("those far off stay", x.spite(0, 4, 0), 3);
        Due.good(x, 2, "take=1 unless load-20");
        Due.due("the rule ahead holds for two, take 1 for two", x.spite(0, 4, 0), 1);
        Due.due("4 times 3 by 10: one, and three are there", x.spite(0, 4, 1), 0);
        Due.good(x, 2, "mile=10");
        Due.due("four of them had to be there", x.spite(0, 4, 1), 1);
    }

    private static void triedEnough() {
        CurrentFarms x = row(4);
        x.farm(1, 1);
        x.sign(0, SIGNED, 0, 0);
        Due.due("4 times 3 by 10", x.mile(0), 1);
        Due.due("4 times 5 by 10", Due.tried(x, 0, "mile=5"), 0);
        Due.due("4 times 4 by 10", Due.tried(x, 0, "mile=4"), 1);
        Due.due("it was but tried", x.mile(0), 1);
        Due.due("no rule", x.count(2), 0);
        Due.due("no tape", x.count(4), 0);
        for (int i = 0; i < 8; i++) Due.good(x, 0, "mile=5");
        Due.due("a ninth one can be tried", Due.tried(x, 0, "mile=4"), 1);
        Due.due("the eight stay", x.why(0, -1, 0, 0), 700);
        Due.due("and hold", x.mile(0), 0);
    }

    private static void triedCost() {
        CurrentFarms x = new CurrentFarms();
        for (int c : new int[] {4, 2, 10, 30, 0}) x.farm(c, 1);
        for (int f = 0; f < 5; f++) x.sign(f, SIGNED, 0, 0);
        Due.due("farm 1 is on the way of farm 0: 40 of 40; then 10 for farm 2", Due.tried(x, 1, "late=1"), 50);
        Due.due("far off one: 50 more, 30 more to serve", Due.tried(x, 1, "serve=30"), 50 + 50);
        Due.due("all are left as they were", x.left(), 15);
        Due.due("no line", x.count(5), 0);
        x.line(0, 8);
        Due.due("by 8, 9, 10 it is shorter for farm 2", Due.tried(x, 1, "late=1"), 50);
        x.land(2, 0, 9);
        Due.due("no farm pays for itself now but farm 2, from the line", Due.tried(x, 1, "late=1"), 20);
        x.land(31, 1, 3);
        x.land(22, 1, 3);
        x.land(29, 1, 3);
        x.land(38, 1, 3);
        Due.due("an island stays", Due.tried(x, 1, "serve=9999"), 50 + 28);
    }

    private static void triedBills() {
        CurrentFarms x = new CurrentFarms();
        for (int i = 0; i < 3; i++) x.farm(i, 10);
        x.month(2);
        x.sign(0, SERVED, 0, 0);
        x.sign(1, SERVED, 2, 0);
        x.sign(2, SIGNED, 0, 0);
        Due.due("two of 25", Due.tried(x, 2, "take=1"), 50);
        Due.due("by the rate", Due.tried(x, 2, "rate=units"), 30);
        Due.due("owed of the months ahead by the rules of then", Due.tried(x, 2, "rate=owed"), 57 + 10);
        x.read(0, 1, 30);
        Due.due("read", Due.tried(x, 2, "rate=units"), 20 + 10 + 10);
    }

    private static void triedRefused() {
        CurrentFarms x = new CurrentFarms();
        Due.feed(x, "fee");
        for (int off : Due.OFF) Due.due("what", x.tried(off), Due.NONE);
        Due.due("what 3", x.tried(3), Due.NONE);
        Due.due("what -1", x.tried(-1), Due.NONE);
        Due.due("the tape stays", x.count(4), 3);
        Due.due("its fault", x.tried(0), -13);
        Due.due("the tape is empty", x.count(4), 0);
        Due.due("an empty tape", x.tried(1), -10);
        Due.due("no rule", x.count(2), 0);
    }
}
