/** Promises 1 to 6: a new object, land, cost, house, farm, month. */
public final class LandPromises {
    public static void main(String[] args) {
        newObject();
        land();
        landRefused();
        cost();
        house();
        farm();
        month();
        Due.end("land");
    }

    private static void newObject() {
        CurrentFarms x = new CurrentFarms();
        Due.same("new", Due.counts(x), "0 0 0 0 0 0 0 3 2 0 ");
        for (int c = 0; c < 48; c++) {
            Due.due("new, height", x.land(c, 0, 0), 0);
            Due.due("new, ground", x.land(c, 1, 0), 0);
        }
        Due.due("new, left", x.left(), 0);
        Due.due("new, many", x.many(0, 0, -1), 0);
        Due.due("new, undo", x.undo(), Due.STATE);
        Due.due("new, cannot", x.cannot(), Due.STATE);
        Due.due("new, due", x.due(0), 0);
        Due.due("new, volt of the house", x.volt(0), 1000);
        Due.due("NONE", CurrentFarms.NONE, -1);
        Due.due("BAD", CurrentFarms.BAD, -2);
        Due.due("STATE", CurrentFarms.STATE, -3);
        Due.due("FULL", CurrentFarms.FULL, -4);
    }

    private static void land() {
        CurrentFarms x = new CurrentFarms();
        Due.due("a height", x.land(47, 0, 9), 0);
        Due.due("a height again", x.land(47, 0, 4), 9);
        Due.due("a ground", x.land(47, 1, 2), 0);
        Due.due("a ground again", x.land(47, 1, 3), 2);
        Due.due("the height of water", x.land(47, 0, 1), 4);
        Due.due("water stays water", x.land(47, 1, 3), 3);
    }

    private static void landRefused() {
        CurrentFarms x = new CurrentFarms();
        for (int off : Due.OFF) {
            Due.due("no cell", x.land(off, 0, 0), Due.NONE);
            Due.due("no what", x.land(0, off, 0), Due.NONE);
            Due.due("a bad height", x.land(0, 0, off), Due.BAD);
            Due.due("a bad ground", x.land(0, 1, off), Due.BAD);
        }
        Due.due("cell 48", x.land(48, 0, 10), Due.NONE);
        Due.due("what 2", x.land(0, 2, 10), Due.NONE);
        Due.due("height 10", x.land(0, 0, 10), Due.BAD);
        Due.due("ground 4", x.land(0, 1, 4), Due.BAD);
        x.farm(3, 1);
        x.line(0, 1);
        Due.due("water under the house", x.land(0, 1, 3), Due.STATE);
        Due.due("water under the line", x.land(1, 1, 3), Due.STATE);
        Due.due("water under a farm", x.land(3, 1, 3), Due.STATE);
        Due.due("height 3 under a farm", x.land(3, 0, 3), 0);
        Due.due("wood under the line", x.land(1, 1, 1), 0);
        x.clear();
        Due.due("water where a line was", x.land(1, 1, 3), 1);
    }

    private static void cost() {
        CurrentFarms x = new CurrentFarms();
        Due.due("flat fields", x.cost(0, 8), 10);
        Due.due("cells of two rows are not beside", x.cost(7, 8), Due.BAD);
        Due.due("corners are not beside", x.cost(0, 9), Due.BAD);
        Due.due("a cell is not beside itself", x.cost(5, 5), Due.BAD);
        Due.due("two steps", x.cost(0, 16), Due.BAD);
        Due.due("no a", x.cost(-1, 0), Due.NONE);
        Due.due("no b", x.cost(47, 48), Due.NONE);
        x.land(8, 0, 9);
        Due.due("height", x.cost(0, 8), 28);
        Due.due("height from above", x.cost(8, 0), 28);
        x.land(0, 0, 7);
        Due.due("the difference of heights", x.cost(0, 8), 14);
        x.land(0, 0, 0);
        x.land(8, 1, 1);
        Due.due("one wood", x.cost(0, 8), 34);
        x.land(0, 1, 1);
        Due.due("two woods", x.cost(0, 8), 40);
        x.land(0, 1, 2);
        Due.due("wood and road", x.cost(0, 8), 30);
        x.land(8, 1, 2);
        x.land(8, 0, 0);
        Due.due("two roads", x.cost(0, 8), 2);
        x.land(8, 1, 3);
        Due.due("to water", x.cost(0, 8), -5);
        Due.due("from water", x.cost(8, 0), -5);
    }

    private static void house() {
        CurrentFarms x = new CurrentFarms();
        Due.due("moved", x.house(47), 0);
        Due.due("moved again", x.house(20), 47);
        Due.due("no cell", x.house(48), Due.NONE);
        Due.due("no cell", x.house(-1), Due.NONE);
        x.land(21, 1, 3);
        Due.due("water", x.house(21), Due.STATE);
        x.line(20, 19);
        Due.due("a line", x.house(20), Due.STATE);
        Due.due("it stayed", x.count(9), 20);
        x.clear();
        Due.due("no line", x.house(5), 20);
    }

    private static void farm() {
        CurrentFarms x = new CurrentFarms();
        x.land(7, 1, 3);
        Due.due("no cell ahead of load", x.farm(48, 0), Due.NONE);
        Due.due("load ahead of water", x.farm(7, 0), Due.BAD);
        Due.due("load 51", x.farm(0, 51), Due.BAD);
        Due.due("water", x.farm(7, 1), Due.STATE);
        for (int i = 0; i < 10; i++) Due.due("farm", x.farm(i < 5 ? 0 : 47, i == 0 ? 1 : 50), i);
        Due.due("water ahead of full", x.farm(7, 1), Due.STATE);
        Due.due("full", x.farm(0, 1), Due.FULL);
        Due.due("farms", x.count(0), 10);
    }

    private static void month() {
        CurrentFarms x = new CurrentFarms();
        Due.due("it stays", x.month(0), 0);
        Due.due("below 0", x.month(-1), Due.BAD);
        Due.due("on", x.month(119), 0);
        Due.due("back", x.month(118), Due.BAD);
        Due.due("too far", x.month(121), Due.BAD);
        Due.due("the last", x.month(120), 119);
        Due.due("now", x.count(3), 120);
    }
}
