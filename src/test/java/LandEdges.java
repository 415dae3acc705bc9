/** ==== 1, sentence by sentence: each limit from inside and from outside, what is empty and what is full. */
public final class LandEdges {
    private static final int FIELD = 0, WOOD = 1, ROAD = 2, WATER = 3;

    public static void main(String[] args) {
        cellsAreFrom0To47();
        besideBySides();
        heightsAreFrom0To9();
        groundsAreFrom0To3();
        costOfHeights();
        costOfGrounds();
        noneLeadsFromOrToWater();
        theHouseIsInCell0AtFirst();
        monthsAreFrom0To120();
        farmsAre10AtMost();
        loadsAreFrom1To50();
        farmsMayBeInOneCell();
        waterMayNotBeUnderThem();
        Due.end("edges of the land");
    }

    /** "CELLS 0 .. 47" */
    private static void cellsAreFrom0To47() {
        CurrentFarms x = new CurrentFarms();
        for (int c : new int[] {0, 47}) {
            Due.due("land, cell " + c, x.land(c, 0, 0), 0);
            Due.due("land, cell " + c, x.land(c, 1, 0), 0);
            Due.due("farm, cell " + c, x.farm(c, 1), c / 47);
        }
        Due.due("cost from 0", x.cost(0, 8), 10);
        Due.due("cost to 0", x.cost(8, 0), 10);
        Due.due("cost from 47", x.cost(47, 39), 10);
        Due.due("cost to 47", x.cost(39, 47), 10);
        Due.due("the house goes to 47", x.house(47), 0);
        Due.due("line from 47", x.line(47, 46), 1);
        for (int c = 46; c > 40; c--) x.line(c, c - 1);
        for (int c = 40; c > 0; c -= 8) Due.due("line to " + (c - 8), x.line(c, c - 8), 13 - c / 8);
        Due.due("volt of 0", x.volt(0), 1000);
        Due.due("volt of 47", x.volt(47), 1000);
        Due.due("storm of 0", x.storm(0, 1), 1);
        Due.due("order tells 0", x.order(0), 0);
        Due.due("the way from 0 to 47", x.spite(0, 47, 0), 2);
        Due.due("the way from 47 to 0", x.spite(47, 0, 0), 2);
        Due.due("poles of 12 stretches", x.pole(0), 5);
        x.clear();
        Due.due("the house goes to 0", x.house(0), 47);
        int[] off = {-1, 48, Integer.MIN_VALUE, Integer.MAX_VALUE};
        for (int c : off) {
            Due.due("land " + c, x.land(c, 0, 0), Due.NONE);
            Due.due("cost from " + c, x.cost(c, 47), Due.NONE);
            Due.due("cost to " + c, x.cost(0, c), Due.NONE);
            Due.due("house " + c, x.house(c), Due.NONE);
            Due.due("farm " + c, x.farm(c, 1), Due.NONE);
            Due.due("line from " + c, x.line(c, 0), Due.NONE);
            Due.due("line to " + c, x.line(0, c), Due.NONE);
            Due.due("volt " + c, x.volt(c), Due.NONE);
            Due.due("storm " + c, x.storm(c, 1), Due.NONE);
            Due.due("spite from " + c, x.spite(c, 0, 0), Due.NONE);
            Due.due("spite to " + c, x.spite(0, c, 0), Due.NONE);
        }
    }

    /** "CELL c is in column c modulo 8, row c by 8; they are BESIDE one another by sides." */
    private static void besideBySides() {
        for (int a = 0; a < 48; a++) {
            CurrentFarms x = new CurrentFarms();
            for (int b = 0; b < 48; b++) {
                boolean sameRow = a / 8 == b / 8 && (a % 8 == b % 8 + 1 || b % 8 == a % 8 + 1);
                boolean sameColumn = a % 8 == b % 8 && (a / 8 == b / 8 + 1 || b / 8 == a / 8 + 1);
                Due.due("cost(" + a + ", " + b + ")", x.cost(a, b), sameRow || sameColumn ? 10 : Due.BAD);
            }
        }
    }

    /** "Each has a HEIGHT (0 .. 9; 0 at first)" */
    private static void heightsAreFrom0To9() {
        CurrentFarms x = new CurrentFarms();
        int was = 0;
        for (int h : new int[] {9, 0, 5, 9, 9}) {
            Due.due("height " + h, x.land(20, 0, h), was);
            was = h;
        }
        Due.due("10", x.land(20, 0, 10), Due.BAD);
        Due.due("-1", x.land(20, 0, -1), Due.BAD);
        Due.due("it is 9 still", x.land(20, 0, 0), 9);
        Due.due("its ground is a field still", x.land(20, 1, 0), 0);
        Due.due("the cell ahead", x.land(19, 0, 0), 0);
        Due.due("the cell behind", x.land(21, 0, 0), 0);
    }

    /** "is 0 FIELD (at first), 1 WOOD, 2 ROAD, 3 WATER" */
    private static void groundsAreFrom0To3() {
        CurrentFarms x = new CurrentFarms();
        int was = FIELD;
        for (int g : new int[] {WATER, FIELD, WOOD, ROAD, WATER, WATER, ROAD}) {
            Due.due("ground " + g, x.land(20, 1, g), was);
            was = g;
        }
        Due.due("4", x.land(20, 1, 4), Due.BAD);
        Due.due("-1", x.land(20, 1, -1), Due.BAD);
        Due.due("a height of 9 is no ground", x.land(20, 1, 9), Due.BAD);
        Due.due("it is a road still", x.land(20, 1, FIELD), ROAD);
    }

    /** "10, 2 for each of difference of HEIGHTS" */
    private static void costOfHeights() {
        CurrentFarms x = new CurrentFarms();
        for (int h = 0; h < 10; h++) {
            x.land(9, 0, h);
            x.land(10, 0, 0);
            Due.due("up to " + h, x.cost(10, 9), 10 + 2 * h);
            x.land(10, 0, 9);
            Due.due("down from 9 to " + h, x.cost(10, 9), 10 + 2 * (9 - h));
            Due.due("up to 9 from " + h, x.cost(9, 10), 10 + 2 * (9 - h));
        }
    }

    /** "6 more for each of both that is a WOOD, 4 less for each that is a ROAD (1 at least)": 2 is the least there is. */
    private static void costOfGrounds() {
        CurrentFarms x = new CurrentFarms();
        int[][] due = {{10, 16, 6}, {16, 22, 12}, {6, 12, 2}};
        for (int a = FIELD; a <= ROAD; a++) {
            for (int b = FIELD; b <= ROAD; b++) {
                x.land(9, 1, a);
                x.land(17, 1, b);
                x.land(9, 0, 0);
                Due.due("from " + a + " to " + b, x.cost(9, 17), due[a][b]);
                Due.due("back", x.cost(17, 9), due[a][b]);
                x.land(9, 0, 9);
                Due.due("steep", x.cost(9, 17), due[a][b] + 18);
            }
        }
    }

    /** "none leads from or to WATER" */
    private static void noneLeadsFromOrToWater() {
        CurrentFarms x = new CurrentFarms();
        x.land(9, 1, WATER);
        for (int ground = FIELD; ground <= WATER; ground++) {
            x.land(10, 1, ground);
            Due.due("from water", x.cost(9, 10), -5);
            Due.due("to water", x.cost(10, 9), -5);
        }
        x.land(9, 1, FIELD);
        Due.due("the other is water still", x.cost(9, 10), -5);
        x.land(10, 1, FIELD);
        Due.due("no more water", x.cost(9, 10), 10);
    }

    /** "THE HOUSE is in a CELL (0 at first)" */
    private static void theHouseIsInCell0AtFirst() {
        CurrentFarms x = new CurrentFarms();
        Due.due("at first", x.count(9), 0);
        Due.due("it stays there", x.house(0), 0);
        Due.due("to the last cell", x.house(47), 0);
        Due.due("there", x.count(9), 47);
        x.line(47, 39);
        Due.due("a line", x.house(0), Due.STATE);
        Due.due("there still", x.count(9), 47);
        x.clear();
        Due.due("an empty line", x.house(0), 47);
    }

    /** "MONTHS are 0 .. 120; NOW is 0 at first"; "NOW goes on to a later MONTH, or stays" */
    private static void monthsAreFrom0To120() {
        CurrentFarms x = new CurrentFarms();
        Due.due("now", x.count(3), 0);
        Due.due("-1", x.month(-1), Due.BAD);
        Due.due("it stays", x.month(0), 0);
        Due.due("121", x.month(121), Due.BAD);
        Due.due("by one", x.month(1), 0);
        Due.due("back by one", x.month(0), Due.BAD);
        Due.due("to the last", x.month(120), 1);
        Due.due("it stays there", x.month(120), 120);
        Due.due("121", x.month(121), Due.BAD);
        Due.due("119", x.month(119), Due.BAD);
        Due.due("now", x.count(3), 120);
    }

    /** "FARMS are numbered from 0 on, 10 at most" */
    private static void farmsAre10AtMost() {
        CurrentFarms x = new CurrentFarms();
        Due.due("none", x.count(0), 0);
        Due.due("no farm 0", x.as(0, 0, -1), Due.NONE);
        for (int f = 0; f < 10; f++) {
            Due.due("farm", x.farm(4 * f + 1, 10), f);
            Due.due("farms", x.count(0), f + 1);
            Due.due("the last one", x.as(f, 0, -1), 0);
            Due.due("none behind it", x.as(f + 1, 0, -1), Due.NONE);
        }
        Due.due("full", x.farm(1, 10), Due.FULL);
        Due.due("farms", x.count(0), 10);
        Due.due("farm 9 signs", x.sign(9, 2, 0, 0), 0);
        Due.due("farm 10 does not", x.sign(10, 2, 0, 0), Due.NONE);
        Due.due("farm 9 is read", x.read(9, 0, 9), -5);
        Due.due("and used it", x.units(9, 0), 9);
        Due.due("and has its bill", x.bill(9, 0), 23);
        Due.due("and pays", x.pay(9, 0, 3), 3);
        Due.due("and owes", x.owe(9, 0), 22);
        Due.due("none before it", x.owe(8, 0), 0);
        Due.due("it is left", x.left(), 512);
        Due.due("its way: five rows down, five columns on", x.next(9, 0), 90);
        Due.due("least for it", x.best(512), 90);
        Due.due("its word", x.force(1, 9, 0, 7), 14);
        Due.due("farm 10 has none", x.force(1, 10, 0, 7), Due.NONE);
    }

    /** "with a LOAD (1 .. 50)" */
    private static void loadsAreFrom1To50() {
        CurrentFarms x = new CurrentFarms();
        Due.due("0", x.farm(1, 0), Due.BAD);
        Due.due("1", x.farm(1, 1), 0);
        Due.due("50", x.farm(1, 50), 1);
        Due.due("51", x.farm(1, 51), Due.BAD);
        Due.due("-1", x.farm(1, -1), Due.BAD);
        Due.due("two", x.count(0), 2);
        Due.good(x, 0, "fee=load");
        Due.due("load 1", x.force(2, 0, 0, 0), 1);
        Due.due("load 50", x.force(2, 1, 0, 0), 50);
    }

    /** "each in a CELL (no WATER; several may be in one)" */
    private static void farmsMayBeInOneCell() {
        CurrentFarms x = new CurrentFarms();
        for (int f = 0; f < 9; f++) Due.due("all in one", x.farm(47, 5), f);
        x.land(46, 1, WATER);
        Due.due("in water", x.farm(46, 5), Due.STATE);
        x.land(46, 1, FIELD);
        Due.due("no more water", x.farm(46, 5), 9);
        for (int f = 0; f < 9; f++) x.sign(f, 0, 0, 0);
        Due.due("all are left", x.left(), 511);
        Due.due("one way for all", x.next(8, 0), 120);
        Due.due("180 coins of nine members", x.next(0, 1), 1);
    }

    /** "STATE: WATER, and a FARM, THE HOUSE or THE LINE is there" */
    private static void waterMayNotBeUnderThem() {
        CurrentFarms x = new CurrentFarms();
        Due.due("at the house, no line", x.land(0, 1, WATER), Due.STATE);
        x.house(5);
        Due.due("where the house was", x.land(0, 1, WATER), FIELD);
        Due.due("at the house", x.land(5, 1, WATER), Due.STATE);
        Due.due("back to where it is water now", x.house(0), Due.STATE);
        x.line(5, 6);
        x.line(6, 7);
        for (int c = 5; c < 8; c++) Due.due("on the line", x.land(c, 1, WATER), Due.STATE);
        x.clear();
        Due.due("no line", x.land(7, 1, WATER), FIELD);
        x.farm(8, 1);
        Due.due("at a farm", x.land(8, 1, WATER), Due.STATE);
        Due.due("a road there", x.land(8, 1, ROAD), FIELD);
        Due.due("height 3 is no water", x.land(8, 0, 3), 0);
        Due.due("water beside it", x.land(9, 1, WATER), FIELD);
    }
}
