import java.util.function.Supplier;

/** ==== 8: of several refusals the first one told, NONE, BAD, STATE, FULL; they change nothing. */
public final class RefusalEdges {
    private static final int NONE = Due.NONE, BAD = Due.BAD, STATE = Due.STATE, FULL = Due.FULL;
    private static final int NOW = Rich.NOW;

    interface Call {
        int on(CurrentFarms x);
    }

    public static void main(String[] args) {
        land();
        cost();
        house();
        farm();
        month();
        sign();
        strike();
        kinds();
        feed();
        text();
        words();
        line();
        oneNumber();
        poleAndNext();
        voltAndLose();
        read();
        unitsBillOwe();
        pay();
        loan();
        storm();
        order();
        spite();
        tried();
        undo();
        Due.end("refusals");
    }

    /** What is due, and that the object shows after the call all that it showed ahead of it. */
    private static void refused(String what, int due, Supplier<CurrentFarms> made, Call call) {
        CurrentFarms x = made.get();
        String was = Shown.still(x);
        Due.due(what, call.on(x), due);
        Due.same(what + " changes nothing", Shown.still(x), was);
        CurrentFarms y = made.get(), twin = made.get();
        Due.due(what + " at once", call.on(y), due);
        Due.same(what + " changes nothing of the rest", Shown.whole(y), Shown.whole(twin));
    }

    private static void refused(String what, int due, Call call) {
        refused(what, due, Rich::plain, call);
    }

    /** CELL 10 is WATER; 8 THE HOUSE's, 16 on THE LINE, 19 a FARM's. */
    private static void land() {
        for (int cell : new int[] {-1, 48, Integer.MIN_VALUE, Integer.MAX_VALUE}) {
            refused("land, cell " + cell, NONE, x -> x.land(cell, 0, 0));
            refused("land, cell " + cell + " ahead of n", NONE, x -> x.land(cell, 1, 4));
        }
        for (int what : new int[] {-1, 2, Integer.MIN_VALUE, Integer.MAX_VALUE}) {
            refused("land, what " + what, NONE, x -> x.land(0, what, 0));
            refused("land, what " + what + " ahead of n", NONE, x -> x.land(0, what, 10));
        }
        refused("land, height -1", BAD, x -> x.land(11, 0, -1));
        refused("land, height 10", BAD, x -> x.land(11, 0, 10));
        refused("land, ground -1", BAD, x -> x.land(11, 1, -1));
        refused("land, ground 4", BAD, x -> x.land(11, 1, 4));
        refused("land, ground 4 ahead of the house", BAD, x -> x.land(8, 1, 4));
        refused("land, water at the house", STATE, x -> x.land(8, 1, 3));
        refused("land, water on the line", STATE, x -> x.land(16, 1, 3));
        refused("land, water at the line's end", STATE, x -> x.land(24, 1, 3));
        refused("land, water at a farm", STATE, x -> x.land(19, 1, 3));
        refused("land, water at the house without a line", STATE, Rich::withoutLine, x -> x.land(8, 1, 3));
    }

    private static void cost() {
        refused("cost, a -1", NONE, x -> x.cost(-1, 0));
        refused("cost, b 48", NONE, x -> x.cost(47, 48));
        refused("cost, a 48, not beside", NONE, x -> x.cost(48, 0));
        refused("cost, not beside", BAD, x -> x.cost(0, 2));
        refused("cost, itself", BAD, x -> x.cost(3, 3));
        refused("cost, water and not beside", BAD, x -> x.cost(10, 12));
        refused("cost, water (no refusal)", -5, x -> x.cost(10, 11));
    }

    private static void house() {
        refused("house, cell -1", NONE, Rich::withoutLine, x -> x.house(-1));
        refused("house, cell 48", NONE, Rich::withoutLine, x -> x.house(48));
        refused("house, cell 48 ahead of a line", NONE, x -> x.house(48));
        refused("house, water", STATE, Rich::withoutLine, x -> x.house(10));
        refused("house, a line", STATE, x -> x.house(9));
        refused("house, a line, where it is", STATE, x -> x.house(8));
    }

    private static void farm() {
        for (int load : new int[] {0, 51, -1, Integer.MIN_VALUE, Integer.MAX_VALUE}) {
            refused("farm, cell -1 ahead of load " + load, NONE, x -> x.farm(-1, load));
            refused("farm, load " + load, BAD, x -> x.farm(9, load));
            refused("farm, load " + load + " ahead of water", BAD, x -> x.farm(10, load));
        }
        refused("farm, cell 48", NONE, x -> x.farm(48, 1));
        refused("farm, water", STATE, x -> x.farm(10, 1));
        refused("farm, cell 48 ahead of full", NONE, Rich::fullOfFarms, x -> x.farm(48, 1));
        refused("farm, load 51 ahead of full", BAD, Rich::fullOfFarms, x -> x.farm(9, 51));
        refused("farm, water ahead of full", STATE, Rich::fullOfFarms, x -> x.farm(10, 1));
        refused("farm, full", FULL, Rich::fullOfFarms, x -> x.farm(9, 1));
    }

    private static void month() {
        for (int m : new int[] {-1, 0, NOW - 1, 121, Integer.MIN_VALUE, Integer.MAX_VALUE}) {
            refused("month " + m, BAD, x -> x.month(m));
        }
    }

    /** Each choice of good and wrong arguments, in a book with room and in a full one. */
    private static void sign() {
        int[] farms = {0, 4, -1, 5}, whats = {0, 1, 4, -1, 5}, months = {0, NOW, -1, NOW + 1, 121}, ns = {1, 10, 0, 11};
        CurrentFarms full = Rich.fullOfEntries(), room = Rich.plain();
        String wasFull = Shown.still(full), wasRoom = Shown.still(room);
        for (int f : farms) {
            for (int what : whats) {
                for (int i = 0; i < 4; i++) {
                    int m = months[1 + i], n = ns[i];
                    boolean none = f < 0 || f > 4 || what < 0 || what > 4;
                    boolean bad = m != NOW || what == 1 && (n < 1 || n > 10);
                    int due = none ? NONE : bad ? BAD : FULL;
                    String call = "sign(" + f + ", " + what + ", " + m + ", " + n + ")";
                    if (due != FULL) Due.due(call, room.sign(f, what, m, n), due);
                    Due.due(call + ", full", full.sign(f, what, m, n), due);
                }
            }
        }
        Due.same("sign, refused with room", Shown.still(room), wasRoom);
        Due.same("sign, refused when full", Shown.still(full), wasFull);
        refused("sign, farm 5", NONE, x -> x.sign(5, 0, 0, 0));
        refused("sign, what 5", NONE, x -> x.sign(0, 5, 0, 0));
        refused("sign, what -1 ahead of month", NONE, x -> x.sign(0, -1, NOW + 1, 0));
        refused("sign, month", BAD, x -> x.sign(0, 0, NOW + 1, 0));
        refused("sign, n 0", BAD, x -> x.sign(0, 1, 0, 0));
        refused("sign, n 11", BAD, x -> x.sign(0, 1, 0, 11));
        refused("sign, n 11 ahead of full", BAD, Rich::fullOfEntries, x -> x.sign(0, 1, 0, 11));
        refused("sign, full", FULL, Rich::fullOfEntries, x -> x.sign(0, 0, 0, 0));
    }

    /** In plain() ENTRY 5 is STRUCK by ENTRY 6; in fullOfEntries() by ENTRY 119. */
    private static void strike() {
        for (int e : new int[] {-1, 7, Integer.MIN_VALUE, Integer.MAX_VALUE}) {
            refused("strike, entry " + e, NONE, x -> x.strike(e));
        }
        refused("strike, it is struck", STATE, x -> x.strike(5));
        refused("strike, it struck one", STATE, x -> x.strike(6));
        refused("strike, entry 120 ahead of full", NONE, Rich::fullOfEntries, x -> x.strike(120));
        refused("strike, struck ahead of full", STATE, Rich::fullOfEntries, x -> x.strike(5));
        refused("strike, struck one ahead of full", STATE, Rich::fullOfEntries, x -> x.strike(119));
        refused("strike, full", FULL, Rich::fullOfEntries, x -> x.strike(0));
        refused("strike, full, the last that stands", FULL, Rich::fullOfEntries, x -> x.strike(118));
    }

    private static void kinds() {
        for (int e : new int[] {-2, 8, Integer.MIN_VALUE, Integer.MAX_VALUE}) {
            refused("as, e " + e, NONE, x -> x.as(0, 0, e));
            refused("as, e " + e + " ahead of month", NONE, x -> x.as(0, 121, e));
            refused("many, e " + e, NONE, x -> x.many(0, 0, e));
            refused("many, e " + e + " ahead of month", NONE, x -> x.many(0, -1, e));
        }
        for (int m : new int[] {-1, 121, Integer.MIN_VALUE, Integer.MAX_VALUE}) {
            refused("as, month " + m, BAD, x -> x.as(0, m, -1));
            refused("as, farm 5 ahead of month " + m, NONE, x -> x.as(5, m, -1));
            refused("many, month " + m, BAD, x -> x.many(0, m, -1));
            refused("many, kind 6 ahead of month " + m, NONE, x -> x.many(6, m, -1));
        }
        refused("as, farm -1", NONE, x -> x.as(-1, 0, -1));
        refused("as, farm 5", NONE, x -> x.as(5, 0, -1));
        refused("many, kind -1", NONE, x -> x.many(-1, 0, -1));
        refused("many, kind 6", NONE, x -> x.many(6, 0, -1));
        refused("tip, farm -1", NONE, x -> x.tip(-1));
        refused("tip, farm 5", NONE, x -> x.tip(5));
    }

    private static void feed() {
        for (int n : new int[] {0, 9, -1, Integer.MIN_VALUE, Integer.MAX_VALUE}) {
            refused("feed, n " + n, BAD, x -> x.feed(1, n));
            refused("feed, n " + n + " ahead of full", BAD, Rich::fullOfTape, x -> x.feed(1, n));
        }
        refused("feed, full", FULL, Rich::fullOfTape, x -> x.feed(0x31, 1));
        refused("feed, full of eight", FULL, Rich::fullOfTape, x -> x.feed(-1, 8));
    }

    private static void text() {
        for (int m : new int[] {-1, 121, Integer.MIN_VALUE, Integer.MAX_VALUE}) {
            refused("text, month " + m, BAD, x -> x.text(m));
            refused("text, month " + m + " ahead of full", BAD, Rich::fullOfRules, x -> x.text(m));
        }
        refused("text, full", FULL, Rich::fullOfRules, x -> x.text(0));
        refused("text, full ahead of a fault", FULL, () -> Due.feed(Rich.fullOfRules(), ";"), x -> x.text(0));
        refused("text, full ahead of an empty tape", FULL, () -> {
            CurrentFarms x = Rich.fullOfRules();
            x.tried(0);
            return x;
        }, x -> x.text(0));
    }

    private static void words() {
        int[] words = {0, 5, -1, 6}, farms = {-1, 0, 4, -2, 5}, months = {0, 120, -1, 121}, units = {0, 9999, -1, 10000};
        CurrentFarms x = Rich.plain();
        int asked = 0;
        for (int w : words) {
            for (int f : farms) {
                for (int i = 0; i < 4; i++) {
                    int m = months[i], u = units[(i + asked++) % 4];
                    boolean none = w < 0 || w > 5 || f < -1 || f > 4, bad = m < 0 || m > 120 || u < 0 || u > 9999;
                    String with = "(" + w + ", " + f + ", " + m + ", " + u + ")";
                    int due = none ? NONE : bad ? BAD : 0;
                    Due.due("force" + with, Math.min(0, x.force(w, f, m, u)), due);
                    int why = x.why(w, f, m, u);
                    Due.due("why" + with, why == -5 || why >= 0 ? 0 : why, due);
                }
            }
        }
        refused("force, word 6", NONE, o -> o.force(6, 0, 0, 0));
        refused("force, farm -2 ahead of month", NONE, o -> o.force(0, -2, 121, 0));
        refused("force, month 121", BAD, o -> o.force(0, 0, 121, 0));
        refused("force, units 10000", BAD, o -> o.force(0, 0, 0, 10000));
        refused("why, word -1", NONE, o -> o.why(-1, 0, 0, 0));
        refused("why, farm 5 ahead of units", NONE, o -> o.why(0, 5, 0, -1));
        refused("why, month -1", BAD, o -> o.why(0, 0, -1, 0));
        refused("why, units -1", BAD, o -> o.why(0, 0, 0, -1));
    }

    private static void line() {
        refused("line, a -1", NONE, x -> x.line(-1, 0));
        refused("line, b 48", NONE, x -> x.line(47, 48));
        refused("line, not beside", BAD, x -> x.line(8, 10));
        refused("line, not beside and not on it", BAD, x -> x.line(40, 42));
        refused("line, itself", BAD, x -> x.line(8, 8));
        refused("line, water", STATE, x -> x.line(2, 10));
        refused("line, from water", STATE, x -> x.line(10, 11));
        refused("line, a is not on it", STATE, x -> x.line(40, 41));
        refused("line, b is on it", STATE, x -> x.line(1, 0));
        refused("line, b is the house", STATE, x -> x.line(0, 8));
        refused("line, to the house from outside", STATE, x -> x.line(9, 8));
        refused("line, told once more", STATE, x -> x.line(8, 16));
        refused("line, empty, a is not the house", STATE, Rich::withoutLine, x -> x.line(0, 1));
        refused("line, empty, b is the house", STATE, Rich::withoutLine, x -> x.line(9, 8));
    }

    private static void oneNumber() {
        for (int n : new int[] {-1, 0, 6, Integer.MIN_VALUE, Integer.MAX_VALUE}) {
            refused("span " + n, BAD, x -> x.span(n));
        }
        for (int n : new int[] {-1, 0, 10, Integer.MIN_VALUE, Integer.MAX_VALUE}) {
            refused("wire " + n, BAD, x -> x.wire(n));
        }
        for (int n : new int[] {-1, 4, Integer.MIN_VALUE, Integer.MAX_VALUE}) {
            refused("mile " + n, NONE, x -> x.mile(n));
        }
        for (int n : new int[] {-1, 10, Integer.MIN_VALUE, Integer.MAX_VALUE}) {
            refused("count " + n, NONE, x -> x.count(n));
        }
        for (int n : new int[] {-1, 32, 33, Integer.MIN_VALUE, Integer.MAX_VALUE}) {
            refused("best " + n, BAD, x -> x.best(n));
        }
        refused("best of seven", BAD, Rich::fullOfFarms, x -> x.best(127));
        refused("best of seven others", BAD, Rich::fullOfFarms, x -> x.best(0x3F8));
    }

    /** FARM 2 alone is LEFT; 3 is SERVED on THE LINE, 4 TAKEN. */
    private static void poleAndNext() {
        refused("pole, farm -1", NONE, x -> x.pole(-1));
        refused("pole, farm 5", NONE, x -> x.pole(5));
        refused("pole, not on the line", STATE, x -> x.pole(2));
        refused("pole, empty line", STATE, Rich::withoutLine, x -> x.pole(0));
        refused("next, farm -1", NONE, x -> x.next(-1, 0));
        refused("next, farm 5", NONE, x -> x.next(5, 0));
        for (int what : new int[] {-1, 3, Integer.MIN_VALUE, Integer.MAX_VALUE}) {
            refused("next, what " + what, NONE, x -> x.next(2, what));
            refused("next, what " + what + " ahead of state", NONE, x -> x.next(3, what));
        }
        for (int what = 0; what < 3; what++) {
            int it = what;
            refused("next, on the line", STATE, x -> x.next(3, it));
            refused("next, no member", STATE, x -> x.next(4, it));
        }
    }

    private static void voltAndLose() {
        for (int cell : new int[] {-1, 48, 9, 10, 19, Integer.MIN_VALUE, Integer.MAX_VALUE}) {
            refused("volt, cell " + cell, NONE, x -> x.volt(cell));
        }
        for (int what : new int[] {-1, 3, Integer.MIN_VALUE, Integer.MAX_VALUE}) {
            refused("lose, what " + what, NONE, x -> x.lose(what));
        }
    }

    /** FARM 3 is SERVED in all MONTHS, FARM 0 not in MONTH 0, FARM 2 never. */
    private static void read() {
        refused("read, farm 5 ahead of n", NONE, x -> x.read(5, 0, -1));
        refused("read, farm -1", NONE, x -> x.read(-1, 0, 1));
        refused("read, month to come ahead of n", NONE, x -> x.read(3, NOW + 1, -1));
        refused("read, month -1", NONE, x -> x.read(3, -1, 1));
        refused("read, month to come, ahead of state", NONE, x -> x.read(2, NOW + 1, 1));
        for (int n : new int[] {-1, 10000, Integer.MIN_VALUE, Integer.MAX_VALUE}) {
            refused("read, n " + n, BAD, x -> x.read(3, 1, n));
            refused("read, n " + n + " ahead of state", BAD, x -> x.read(2, 1, n));
        }
        refused("read, never served", STATE, x -> x.read(2, 1, 1));
        refused("read, not served then", STATE, x -> x.read(0, 0, 1));
        refused("read, taken", STATE, x -> x.read(4, NOW, 1));
    }

    private static void unitsBillOwe() {
        for (int f : new int[] {-1, 5, Integer.MIN_VALUE, Integer.MAX_VALUE}) {
            refused("units, farm " + f, NONE, x -> x.units(f, 0));
            refused("bill, farm " + f, NONE, x -> x.bill(f, 0));
            refused("owe, farm " + f, NONE, x -> x.owe(f, 0));
        }
        for (int m : new int[] {-1, NOW + 1, 120, 121, Integer.MIN_VALUE, Integer.MAX_VALUE}) {
            refused("units, month " + m, NONE, x -> x.units(3, m));
            refused("bill, month " + m, NONE, x -> x.bill(3, m));
            refused("owe, month " + m, NONE, x -> x.owe(3, m));
        }
    }

    private static void pay() {
        for (int coins : new int[] {0, 10000, -1, Integer.MIN_VALUE, Integer.MAX_VALUE}) {
            refused("pay, coins " + coins, BAD, x -> x.pay(3, 1, coins));
            refused("pay, farm 5 ahead of coins " + coins, NONE, x -> x.pay(5, 1, coins));
            refused("pay, month to come ahead of coins " + coins, NONE, x -> x.pay(3, NOW + 1, coins));
        }
        refused("pay, farm -1", NONE, x -> x.pay(-1, 1, 1));
        refused("pay, month -1", NONE, x -> x.pay(3, -1, 1));
    }

    private static void loan() {
        int[] good = {500, 3, 4, 5, 60}, least = {0, 0, 0, 1, 0}, most = {99999, 120, 20, 60, 99999};
        for (int i = 0; i < 5; i++) {
            for (int off : new int[] {least[i] - 1, most[i] + 1, Integer.MIN_VALUE, Integer.MAX_VALUE}) {
                int[] a = good.clone();
                a[i] = off;
                refused("loan, number " + i + " " + off, BAD, x -> x.loan(a[0], a[1], a[2], a[3], a[4]));
                refused("loan, number " + i + " " + off + ", no loan", BAD, Rich::withoutLoan,
                    x -> x.loan(a[0], a[1], a[2], a[3], a[4]));
            }
        }
        for (int m : new int[] {-1, 241, Integer.MIN_VALUE, Integer.MAX_VALUE}) {
            refused("due, month " + m, NONE, x -> x.due(m));
        }
        refused("cannot, no loan", STATE, Rich::withoutLoan, x -> x.cannot());
    }

    /** In plain() the BREAKS are of CELLS 2 and 16; 19 is off THE LINE. */
    private static void storm() {
        for (int hours : new int[] {0, 21, -1, Integer.MIN_VALUE, Integer.MAX_VALUE}) {
            refused("storm, cell 48 ahead of hours " + hours, NONE, x -> x.storm(48, hours));
            refused("storm, hours " + hours, BAD, x -> x.storm(3, hours));
            refused("storm, hours " + hours + " ahead of state", BAD, x -> x.storm(19, hours));
            refused("storm, hours " + hours + " ahead of full", BAD, Rich::fullOfBreaks, x -> x.storm(17, hours));
        }
        refused("storm, cell -1", NONE, x -> x.storm(-1, 1));
        refused("storm, cell -1 ahead of full", NONE, Rich::fullOfBreaks, x -> x.storm(-1, 1));
        refused("storm, off the line", STATE, x -> x.storm(19, 1));
        refused("storm, the house", STATE, x -> x.storm(8, 1));
        refused("storm, down", STATE, x -> x.storm(2, 1));
        refused("storm, down ahead of full", STATE, Rich::fullOfBreaks, x -> x.storm(2, 1));
        refused("storm, off the line ahead of full", STATE, Rich::fullOfBreaks, x -> x.storm(19, 1));
        refused("storm, full", FULL, Rich::fullOfBreaks, x -> x.storm(17, 1));
        refused("storm, empty line", STATE, Rich::withoutLine, x -> x.storm(0, 1));
    }

    private static void order() {
        for (int i : new int[] {-2, 2, 6, Integer.MIN_VALUE, Integer.MAX_VALUE}) {
            refused("order, i " + i, NONE, x -> x.order(i));
        }
        refused("order, i 0 of none", NONE, Rich::withoutLine, x -> x.order(0));
        refused("order, i 6 of six", NONE, Rich::fullOfBreaks, x -> x.order(6));
    }

    private static void spite() {
        refused("spite, a -1", NONE, x -> x.spite(-1, 8, 0));
        refused("spite, b 48", NONE, x -> x.spite(8, 48, 0));
        refused("spite, b 48 ahead of state", NONE, x -> x.spite(19, 48, 0));
        for (int what : new int[] {-1, 2, Integer.MIN_VALUE, Integer.MAX_VALUE}) {
            refused("spite, what " + what, NONE, x -> x.spite(8, 0, what));
            refused("spite, what " + what + " ahead of state", NONE, x -> x.spite(19, 20, what));
        }
        for (int what = 0; what < 2; what++) {
            int it = what;
            refused("spite, a off the line", STATE, x -> x.spite(19, 8, it));
            refused("spite, b off the line", STATE, x -> x.spite(8, 19, it));
            refused("spite, empty line", STATE, Rich::withoutLine, x -> x.spite(8, 0, it));
        }
    }

    /** A what that is none leaves THE TAPE, a FAULT does not. */
    private static void tried() {
        for (int what : new int[] {-1, 3, Integer.MIN_VALUE, Integer.MAX_VALUE}) {
            refused("tried, what " + what, NONE, x -> x.tried(what));
            refused("tried, what " + what + " ahead of a fault", NONE, () -> Due.feed(Rich.plain(), "x"), x -> x.tried(what));
        }
        for (int what = 0; what < 3; what++) {
            CurrentFarms x = Due.feed(Rich.plain(), "x");
            Due.due("a fault", x.tried(what), -10 - 9);
            Due.due("the tape is empty then", x.count(4), 0);
            Due.due("no rule came", x.count(2), 2);
            CurrentFarms y = Due.feed(Rich.plain(), "x");
            Due.due("a fault of text", y.text(0), -10 - 9);
            Due.same("a fault of either leaves the same", Shown.whole(x), Shown.whole(y));
        }
    }

    private static void undo() {
        refused("undo, no image", STATE, Rich::withoutLine, x -> x.undo());
        CurrentFarms x = Rich.withoutLine();
        x.undo();
        x.image();
        Due.due("an image then", x.undo(), NOW);
    }
}
