/** Promises 40 to 42: image, undo, count. */
public final class ImagePromises {
    public static void main(String[] args) {
        image();
        undoOfAll();
        count();
        Due.end("image");
    }

    private static void image() {
        CurrentFarms x = new CurrentFarms();
        Due.due("none yet", x.undo(), Due.STATE);
        x.month(4);
        Due.due("taken", x.image(), 4);
        x.month(7);
        Due.due("as it was", x.undo(), 4);
        x.month(9);
        Due.due("it can be gone back to again", x.undo(), 4);
        x.month(5);
        Due.due("another in its place", x.image(), 5);
        x.month(6);
        Due.due("as that was", x.undo(), 5);
        Due.due("now", x.count(3), 5);
    }

    private static CurrentFarms full() {
        CurrentFarms x = new CurrentFarms();
        x.land(7, 0, 3);
        x.land(7, 1, 1);
        x.house(1);
        x.farm(2, 10);
        x.farm(3, 20);
        x.month(3);
        x.sign(0, 2, 1, 0);
        x.sign(1, 1, 2, 5);
        Due.good(x, 1, "fee=7;take=1");
        Due.feed(x, "rate=");
        x.line(1, 2);
        x.line(2, 3);
        x.span(2);
        x.wire(4);
        x.storm(2, 5);
        x.read(0, 2, 33);
        x.pay(0, 3, 11);
        x.loan(100, 1, 2, 5, 40);
        return x;
    }

    /** What all kinds of calls answer, with none that changes anything. */
    private static String all(CurrentFarms x) {
        StringBuilder s = new StringBuilder(Due.counts(x));
        for (int f = 0; f < 2; f++) {
            for (int m = 0; m < 5; m++) {
                int[] row = {x.as(f, m, -1), x.as(f, m, 1), x.units(f, m), x.bill(f, m), x.owe(f, m),
                    x.force(5, f, m, 1), x.why(2, f, m, 1), x.due(m)};
                for (int n : row) s.append(n).append(' ');
            }
            s.append(x.pole(f)).append(' ').append(x.next(f, 0)).append(' ').append(x.tip(f)).append(' ');
        }
        int[] row = {x.cost(6, 7), x.mile(0), x.mile(2), x.mile(3), x.volt(3), x.lose(2), x.order(-1), x.order(0),
            x.cannot(), x.best(3), x.left(), x.spite(1, 3, 0), x.spite(1, 3, 1)};
        for (int n : row) s.append(n).append(' ');
        return s.toString();
    }

    private static void undoOfAll() {
        CurrentFarms x = full();
        String was = all(x);
        x.image();
        Due.same("image changes nothing", all(x), was);
        change(x);
        Due.due("all is changed", all(x).equals(was) ? 1 : 0, 0);
        Due.due("undo", x.undo(), 3);
        Due.same("undone", all(x), was);
        change(x);
        x.undo();
        Due.same("undone again", all(x), was);
        Due.feed(x, "units");
        Due.due("the tape came back", x.text(0), 1);
        Due.due("and reads", x.force(1, 0, 0, 9), 9);
        Due.due("a break came back", x.storm(2, 1), Due.STATE);
        Due.due("the height came back", x.land(7, 0, 0), 3);
        Due.due("what was read came back", x.read(0, 2, 0), 33);
        Due.due("what was paid came back", x.pay(0, 3, 1), 12);
        Due.due("a struck one is not struck", x.strike(0), 2);
    }

    private static void change(CurrentFarms x) {
        x.read(0, 2, 50);
        x.text(0);
        Due.good(x, 0, "take=0;fee=1");
        Due.good(x, 1, "mile=9;fee=1");
        x.month(4);
        x.strike(0);
        x.sign(1, 2, 0, 0);
        x.farm(5, 1);
        x.clear();
        x.house(9);
        x.land(7, 0, 0);
        x.land(7, 1, 2);
        x.line(9, 10);
        x.storm(10, 9);
        x.line(10, 11);
        x.storm(11, 9);
        x.span(5);
        x.wire(9);
        x.read(1, 2, 99);
        x.pay(0, 3, 5);
        x.loan(9, 9, 9, 9, 9);
    }

    private static void count() {
        CurrentFarms x = full();
        Due.same("counts", Due.counts(x), "2 2 1 3 5 2 1 2 4 1 ");
        for (int off : Due.OFF) Due.due("what", x.count(off), Due.NONE);
        Due.due("what 10", x.count(10), Due.NONE);
        Due.due("what -1", x.count(-1), Due.NONE);
    }
}
