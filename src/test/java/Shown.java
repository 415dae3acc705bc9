/** What an object shows, as a text: to be held against what it showed before, or against what a twin shows. */
final class Shown {
    private final CurrentFarms x;
    private final StringBuilder all = new StringBuilder();
    private final int now;
    private final int farms;

    private Shown(CurrentFarms x) {
        this.x = x;
        now = x.count(3);
        farms = x.count(0);
    }

    /** By calls that change nothing: some 150 of them for five FARMS. */
    static String still(CurrentFarms x) {
        Shown s = new Shown(x);
        s.counts();
        s.costs();
        s.farms();
        s.rules();
        s.line();
        s.loan();
        return s.all.toString();
    }

    /** By calls that change much, too: THE TAPE, THE IMAGE, BREAKS and ENTRIES; the object is of no more use. */
    static String whole(CurrentFarms x) {
        Shown s = new Shown(x);
        s.kinds();
        s.metersAndCoins();
        s.land();
        s.put("fix", x.fix());
        s.tape();
        s.image();
        return s.all.toString();
    }

    private void put(String what, int... answers) {
        all.append(what);
        for (int n : answers) all.append(' ').append(n);
        all.append(';');
    }

    private void counts() {
        for (int i = 0; i < 10; i++) put("count", x.count(i));
        for (int k = 0; k < 6; k++) put("many", x.many(k, now, -1));
    }

    private void costs() {
        for (int c = 0; c < 24; c++) put("cost", c % 8 < 7 ? x.cost(c, c + 1) : 0, x.cost(c, c + 8));
    }

    private void farms() {
        for (int f = 0; f < farms; f++) {
            put("kind", x.as(f, now, -1), x.tip(f));
            put("way", x.pole(f), x.next(f, 0), x.next(f, 2));
            put("coins", x.units(f, now), x.bill(f, now), x.owe(f, now));
        }
    }

    private void rules() {
        for (int w = 0; w < 6; w++) put("word", x.force(w, 0, now, 20), x.why(w, 0, now, 20));
    }

    private void line() {
        for (int i = 0; i < 4; i++) put("mile", x.mile(i));
        for (int c = 0; c < 12; c++) put("volt", x.volt(c));
        put("left, lost", x.left(), x.lose(2));
        for (int i = -1; i < x.count(6); i++) put("order", x.order(i));
    }

    private void loan() {
        put("loan", x.due(now), x.due(now + 1), x.cannot());
    }

    private void kinds() {
        for (int f = 0; f < farms; f++) {
            for (int m = 0; m <= now; m++) put("kind in " + m, x.as(f, m, -1));
        }
    }

    private void metersAndCoins() {
        for (int f = 0; f < farms; f++) {
            put("read", x.read(f, now, 0));
            put("paid", x.pay(f, now, 1), x.pay(f, 0, 1));
        }
    }

    private void land() {
        for (int c = 0; c < 24; c++) put("land", x.land(c, 0, 0), x.land(c, 1, 0));
    }

    private void tape() {
        put("tape", x.tried(2));
    }

    private void image() {
        put("undo", x.undo());
        all.append(still(x));
    }
}
