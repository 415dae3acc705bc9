/** Objects in which all that there is has been told, and such as are full of something. */
final class Rich {
    /** NOW of all of them. */
    static final int NOW = 6;

    private Rich() { }

    /** Five FARMS, entries of each kind, two RULES, a line of six STRETCHES, two BREAKS, a loan, an image. */
    static CurrentFarms plain() {
        CurrentFarms x = farms(5);
        entries(x);
        Due.good(x, 2, "rate=[units:4,3];fee=7 unless kind-3");
        Due.good(x, 4, "mile=5;serve=load;take=owed;late=20");
        line(x);
        x.storm(2, 5);
        x.storm(16, 9);
        coins(x);
        x.image();
        x.pay(3, 5, 17);
        x.land(20, 0, 5);
        Due.feed(x, "fee=units");
        return x;
    }

    /** THE HOUSE in CELL 8; heights, a wood, roads and a water (in CELL 10). */
    private static CurrentFarms farms(int n) {
        CurrentFarms x = new CurrentFarms();
        int[] cells = {3, 0, 19, 24, 5, 2, 2, 1, 8, 47};
        x.land(1, 0, 5);
        x.land(2, 1, 1);
        x.land(9, 1, 2);
        x.land(10, 1, 3);
        x.land(12, 0, 9);
        x.house(8);
        for (int i = 0; i < n; i++) x.farm(cells[i], 5 + 5 * i);
        x.month(NOW);
        return x;
    }

    private static void entries(CurrentFarms x) {
        x.sign(0, 2, 1, 0);
        x.sign(1, 1, 1, 2);
        x.sign(2, 0, 2, 0);
        x.sign(3, 2, 0, 0);
        x.sign(4, 4, 3, 6);
        x.sign(3, 3, 4, 0);
        x.strike(5);
    }

    private static void line(CurrentFarms x) {
        int[][] stretches = {{8, 0}, {8, 16}, {16, 24}, {0, 1}, {1, 2}, {2, 3}};
        for (int[] s : stretches) x.line(s[0], s[1]);
        x.span(2);
        x.wire(5);
    }

    private static void coins(CurrentFarms x) {
        x.read(3, 0, 12);
        x.read(3, 2, 50);
        x.read(0, 5, 33);
        x.pay(3, 4, 300);
        x.pay(0, 6, 11);
        x.loan(600, 2, 2, 6, 100);
    }

    static CurrentFarms withoutLine() {
        CurrentFarms x = farms(5);
        entries(x);
        coins(x);
        return x;
    }

    static CurrentFarms withoutLoan() {
        CurrentFarms x = farms(5);
        entries(x);
        line(x);
        return x;
    }

    static CurrentFarms fullOfFarms() {
        CurrentFarms x = farms(10);
        entries(x);
        line(x);
        return x;
    }

    /** 120 ENTRIES: the last one is STRUCK, by which ENTRY 5 is none any more. */
    static CurrentFarms fullOfEntries() {
        CurrentFarms x = farms(5);
        for (int i = 0; i < 119; i++) x.sign(i % 5, i % 4, i % (NOW + 1), 1 + i % 10);
        x.strike(5);
        return x;
    }

    /** 8 RULES, and a ninth on THE TAPE. */
    static CurrentFarms fullOfRules() {
        CurrentFarms x = farms(3);
        entries(x);
        for (int i = 0; i < 8; i++) Due.good(x, i, "fee=" + (i + 1));
        return Due.feed(x, "fee=9");
    }

    /** A RULE of 120 bytes on THE TAPE. */
    static CurrentFarms fullOfTape() {
        CurrentFarms x = farms(3);
        entries(x);
        return Due.feed(x, "fee=10" + "+1".repeat(57));
    }

    static CurrentFarms fullOfBreaks() {
        CurrentFarms x = farms(5);
        entries(x);
        line(x);
        x.line(16, 17);
        for (int c : new int[] {0, 16, 24, 1, 2, 3}) x.storm(c, 1 + c % 20);
        return x;
    }
}
