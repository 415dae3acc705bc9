/** Promises 24 to 26: wire, volt, lose. */
public final class VoltPromises {
    private static final int SERVED = 2, CUT = 3;

    public static void main(String[] args) {
        wire();
        volt();
        branches();
        heavy();
        settling();
        mostLost();
        refused();
        Due.end("volts");
    }

    private static void wire() {
        CurrentFarms x = new CurrentFarms();
        Due.due("at first", x.wire(9), 2);
        Due.due("then", x.wire(1), 9);
        Due.due("0", x.wire(0), Due.BAD);
        Due.due("10", x.wire(10), Due.BAD);
        Due.due("far off", x.wire(Integer.MAX_VALUE), Due.BAD);
        Due.due("it stayed", x.count(8), 1);
    }

    private static void volt() {
        CurrentFarms x = new CurrentFarms();
        x.farm(2, 50);
        Due.due("one sweep of none", x.lose(0), 1);
        Due.due("it settles", x.lose(1), 1);
        Due.due("nothing lost", x.lose(2), 0);
        x.line(0, 1);
        x.line(1, 2);
        x.sign(0, 0, 0, 0);
        Due.due("not served", x.volt(2), 1000);
        x.sign(0, SERVED, 0, 0);
        Due.due("the house", x.volt(0), 1000);
        Due.due("one stretch", x.volt(1), 990);
        Due.due("two", x.volt(2), 980);
        Due.due("sweeps: 50, then 51", x.lose(0), 2);
        Due.due("lost: 2 times 2 times 51 times 51", x.lose(2), 10);
        x.wire(9);
        Due.due("sweeps of 50: 910, of 54: 904, of 55: 902, of 55", x.lose(0), 4);
        Due.due("of 55", x.volt(2), 902);
        Due.due("the first of them", x.volt(1), 951);
        Due.due("9 times 2 times 55 times 55", x.lose(2), 54);
        x.sign(0, CUT, 0, 0);
        Due.due("cut", x.volt(2), 1000);
        x.month(1);
        x.pay(0, 0, 9999);
        x.sign(0, SERVED, 1, 0);
        Due.due("served again", x.volt(2), 902);
    }

    private static void branches() {
        CurrentFarms x = new CurrentFarms();
        x.house(9);
        int[][] at = {{10, 10}, {8, 20}, {10, 5}, {11, 30}, {9, 50}, {40, 50}};
        for (int[] f : at) x.farm(f[0], f[1]);
        for (int f = 0; f < 6; f++) x.sign(f, SERVED, 0, 0);
        x.line(9, 10);
        x.line(9, 8);
        x.line(10, 11);
        x.line(10, 18);
        x.wire(3);
        Due.due("all behind it", x.volt(10), 987);
        Due.due("its own", x.volt(11), 978);
        Due.due("a branch without farms", x.volt(18), 987);
        Due.due("the other side", x.volt(8), 994);
        Due.due("lost: 3 times (45, 30, 20) squared", x.lose(2), 9);
        Due.due("not on the line", x.volt(40), Due.NONE);
    }

    /** So much is drawn that it never settles. */
    private static void heavy() {
        CurrentFarms x = new CurrentFarms();
        for (int i = 0; i < 10; i++) x.farm(7, 50);
        for (int i = 0; i < 10; i++) x.sign(i, SERVED, 0, 0);
        for (int i = 0; i < 7; i++) x.line(i, i + 1);
        x.wire(9);
        Due.due("30 sweeps", x.lose(0), 30);
        Due.due("it doesn't settle", x.lose(1), 0);
        Due.due("no volts draw nothing in the last one", x.lose(2), 0);
        Due.due("which puts the volts up", x.volt(7), 1000);
        x.wire(3);
        Due.due("500 times 3 by 10, seven times, are too much for 1000", x.lose(1), 0);

        CurrentFarms y = growing(2, 9, new int[] {1, 2, 2, 2, 2}, new int[] {50, 50, 50, 50, 50});
        Due.due("775 and 595, 640 and 338, 401 and -128, 889 and 889, and so on", y.lose(0), 30);
        Due.due("up and down", y.lose(1), 0);
    }

    /** A SWEEP that changes some CELL by 1 is the last one, by 2 it is not. */
    private static void settling() {
        CurrentFarms x = new CurrentFarms();
        x.farm(1, 50);
        x.sign(0, SERVED, 0, 0);
        x.line(0, 1);
        x.wire(2);
        Due.due("50: 990, 50: 990", x.lose(0), 2);
        x.wire(4);
        Due.due("50: 980, 51: 980", x.lose(0), 2);
        x.wire(6);
        Due.due("50: 970, 51: 970", x.lose(0), 2);
        x.wire(9);
        Due.due("50: 955, 52: 954, which is 1 less", x.lose(0), 2);
        Due.due("and the last", x.volt(1), 954);
        x.farm(1, 50);
        x.sign(1, SERVED, 0, 0);
        Due.due("100: 910, 108: 903, 110: 901 (2 less), 110: 901", x.lose(0), 4);
        Due.due("the last of them", x.volt(1), 901);
    }

    /** FARMS on one way, told as CELL and LOAD, that draw more and more up to the 30th SWEEP. */
    private static CurrentFarms growing(int stretches, int wire, int[] cells, int[] loads) {
        CurrentFarms x = new CurrentFarms();
        for (int i = 0; i < stretches; i++) x.line(i, i + 1);
        for (int i = 0; i < cells.length; i++) {
            x.farm(cells[i], loads[i]);
            x.sign(i, SERVED, 0, 0);
        }
        x.wire(wire);
        return x;
    }

    private static void mostLost() {
        CurrentFarms x = growing(5, 8, new int[] {5, 3, 3, 1, 2, 1, 5, 4, 3},
            new int[] {42, 38, 26, 25, 29, 10, 26, 18, 28});
        Due.due("30 sweeps", x.lose(0), 30);
        Due.due("1160936000 is too much", x.lose(2), 1000000000);
        CurrentFarms y = growing(6, 6, new int[] {}, new int[] {});
        Due.due("nothing", y.lose(2), 0);
    }

    private static void refused() {
        CurrentFarms x = new CurrentFarms();
        for (int off : Due.OFF) {
            Due.due("no cell", x.volt(off), Due.NONE);
            Due.due("no what", x.lose(off), Due.NONE);
        }
        Due.due("cell 48", x.volt(48), Due.NONE);
        Due.due("off the line", x.volt(1), Due.NONE);
        Due.due("what 3", x.lose(3), Due.NONE);
        Due.due("what -1", x.lose(-1), Due.NONE);
    }
}
