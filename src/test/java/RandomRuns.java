import java.util.ArrayList;
import java.util.List;
import java.util.Random;

/** Long runs of drawn calls (of fixed seeds), each answered by the class and by the model alike. */
public final class RandomRuns {
    private static final int CALLS = 512;

    private final Random draw;
    private final CurrentFarms real = new CurrentFarms();
    private final Model model = new Model();
    private final List<String> told = new ArrayList<>();
    /** How far off the drawn numbers go: 0 few refusals, 9 many. */
    private final int wild;
    /** The chapter that half of the run's calls are of. */
    private final int focus;
    private int wrong = 0;

    private RandomRuns(long seed) {
        draw = new Random(seed);
        wild = draw.nextInt(4) == 0 ? 9 : draw.nextInt(3);
        focus = draw.nextInt(96);
    }

    public static void main(String[] args) {
        int runs = args.length > 1 ? Integer.parseInt(args[1]) : 240;
        int from = args.length > 2 ? Integer.parseInt(args[2]) : 0;
        int wrong = 0;
        for (int seed = from; seed < from + runs && wrong < 5; seed++) {
            RandomRuns run = new RandomRuns(seed);
            run.go();
            if (run.wrong == 0) continue;
            wrong++;
            System.out.println("seed " + seed + ":");
            for (String call : run.told) System.out.println("  " + call);
        }
        System.out.println(wrong == 0 ? runs + " drawn runs agree" : wrong + " drawn runs differ");
        if (wrong != 0) System.exit(1);
    }

    private void go() {
        prepare();
        while (told.size() < CALLS && wrong == 0) step();
    }

    private void due(String call, int got, int want) {
        told.add(call + " = " + got + (got == want ? "" : ", the model says " + want));
        if (got != want) wrong++;
    }

    // ---- drawing

    /** A number from least to most, and now and then one that is off. */
    private int some(int least, int most) {
        if (draw.nextInt(100) < 2 * wild) {
            switch (draw.nextInt(6)) {
                case 0: return least - 1;
                case 1: return most + 1;
                case 2: return Integer.MIN_VALUE;
                case 3: return Integer.MAX_VALUE;
                case 4: return draw.nextInt();
                default: return -draw.nextInt(10);
            }
        }
        if (most <= least) return least;
        int edge = draw.nextInt(20);
        return edge == 0 ? least : edge == 1 ? most : least + draw.nextInt(most - least + 1);
    }

    private int farm() { return some(0, real.count(0) - 1); }
    private int past() { return some(0, real.count(3)); }
    private int cell() { return some(0, 47); }
    private int by() { return draw.nextInt(3) > 0 ? -1 : some(-1, real.count(1)); }

    private int nearCell() {
        return draw.nextInt(3) == 0 ? cell() : some(0, 3) + 8 * draw.nextInt(3);
    }

    private int besideOf(int cell) {
        if (draw.nextInt(20) == 0) return cell();
        return cell + new int[] {-8, -1, 1, 8}[draw.nextInt(4)];
    }

    private String sum(int depth) {
        String all = one(depth);
        while (draw.nextInt(3) == 0) all += "+-*/".charAt(draw.nextInt(4)) + one(depth);
        return all;
    }

    private String one(int depth) {
        int kind = draw.nextInt(depth > 2 ? 6 : 9);
        if (kind < 3) return "" + new int[] {0, 1, 2, 3, 5, 9, 10, 20, 50, 100, 500, 9999}[draw.nextInt(12)];
        if (kind < 6) return new String[] {"units", "load", "kind", "owed", "miles"}[draw.nextInt(5)];
        if (kind < 8) return "(" + sum(depth + 1) + ")";
        String all = "[" + sum(depth + 1) + ":" + sum(depth + 2);
        for (int i = draw.nextInt(4); i > 0; i--) all += "," + sum(depth + 2);
        return all + "]";
    }

    private String ruleText() {
        String all = "";
        int n = 1 + draw.nextInt(draw.nextInt(6) == 0 ? 9 : 3);
        for (int i = 0; i < n; i++) {
            if (i > 0) all += ";";
            all += new String[] {"mile", "rate", "fee", "late", "serve", "take"}[draw.nextInt(6)] + "=";
            all += sum(n > 3 ? 3 : draw.nextInt(3));
            if (draw.nextInt(3) == 0) all += " unless " + sum(2);
        }
        if (draw.nextInt(4) == 0) all = spoiled(all);
        return all.length() > 120 ? all.substring(0, 120) : all;
    }

    private String spoiled(String text) {
        int at = draw.nextInt(text.length());
        String signs = "0123456789+-*/()[]:,;= unlesmikwdoartfcv" + (char) 233 + (char) 0;
        String sign = "" + signs.charAt(draw.nextInt(signs.length()));
        switch (draw.nextInt(3)) {
            case 0: return text.substring(0, at);
            case 1: return text.substring(0, at) + sign + text.substring(at);
            default: return text.substring(0, at) + sign + text.substring(at + 1);
        }
    }

    private void tell(String text) {
        for (int i = 0; i < text.length(); i += 8) {
            long w = draw.nextInt(2) == 0 ? 0 : draw.nextLong() << 56;
            int n = Math.min(8, text.length() - i);
            if (n == 8) w = 0;
            for (int j = i; j < i + n; j++) w = w << 8 | text.charAt(j);
            feed(w, n);
        }
    }

    // ---- calls

    private void prepare() {
        for (int i = draw.nextInt(20); i > 0; i--) land(nearCell(), some(0, 1), draw.nextInt(4));
        if (draw.nextBoolean()) house(nearCell());
        for (int i = 2 + draw.nextInt(8); i > 0; i--) farm(nearCell(), some(1, 50));
        month(draw.nextInt(12));
        for (int i = draw.nextInt(20); i > 0; i--) extend();
        for (int i = draw.nextInt(10); i > 0; i--) sign();
    }

    private void extend() {
        int from = draw.nextInt(48);
        for (int i = 0; i < 60 && real.volt(from) == -1; i++) from = draw.nextInt(48);
        line(from, besideOf(from));
    }

    private void land(int cell, int what, int n) {
        due("land(" + cell + ", " + what + ", " + n + ")", real.land(cell, what, n), model.land(cell, what, n));
    }

    private void house(int cell) { due("house(" + cell + ")", real.house(cell), model.house(cell)); }

    private void farm(int cell, int load) {
        due("farm(" + cell + ", " + load + ")", real.farm(cell, load), model.farm(cell, load));
    }

    private void month(int m) { due("month(" + m + ")", real.month(m), model.month(m)); }

    private void line(int a, int b) { due("line(" + a + ", " + b + ")", real.line(a, b), model.line(a, b)); }

    private void sign() {
        int f = farm(), what = some(0, 4), m = past(), n = some(1, draw.nextInt(4) == 0 ? 10 : 4);
        if (draw.nextInt(3) == 0) what = 2;
        due("sign(" + f + ", " + what + ", " + m + ", " + n + ")", real.sign(f, what, m, n), model.sign(f, what, m, n));
    }

    private void feed(long w, int n) { due("feed(" + w + "L, " + n + ")", real.feed(w, n), model.feed(w, n)); }

    private void step() {
        int kind = draw.nextBoolean() ? focus : draw.nextInt(100);
        if (kind < 18) landStep();
        else if (kind < 36) bookStep();
        else if (kind < 50) ruleStep();
        else if (kind < 68) lineStep();
        else if (kind < 84) coinStep();
        else if (kind < 96) stormStep();
        else imageStep();
    }

    private void landStep() {
        int a = nearCell(), b = besideOf(a), n = some(1, 50);
        switch (draw.nextInt(8)) {
            case 0: land(a, 0, some(0, 9)); break;
            case 1: land(a, some(0, 1), some(0, 3)); break;
            case 2: due("cost(" + a + ", " + b + ")", real.cost(a, b), model.cost(a, b)); break;
            case 3: if (draw.nextInt(4) == 0) house(a); break;
            case 4: farm(a, n); break;
            case 5: month(some(real.count(3), Math.min(120, real.count(3) + draw.nextInt(4)))); break;
            default: n = some(0, 9); due("count(" + n + ")", real.count(n), model.count(n)); break;
        }
    }

    private void bookStep() {
        int f = farm(), m = some(0, draw.nextInt(5) == 0 ? 120 : real.count(3)), e = by(), k = some(0, 5);
        switch (draw.nextInt(6)) {
            case 0: case 1: sign(); break;
            case 2: if (draw.nextInt(3) == 0) {
                int i = some(0, real.count(1) - 1);
                due("strike(" + i + ")", real.strike(i), model.strike(i));
            } break;
            case 3: due("as(" + f + ", " + m + ", " + e + ")", real.as(f, m, e), model.as(f, m, e)); break;
            case 4: due("many(" + k + ", " + m + ", " + e + ")", real.many(k, m, e), model.many(k, m, e)); break;
            default: due("tip(" + f + ")", real.tip(f), model.tip(f)); break;
        }
    }

    private void ruleStep() {
        int f = draw.nextInt(4) == 0 ? -1 : farm(), w = some(0, 5), u = some(0, draw.nextInt(3) == 0 ? 9999 : 50);
        int m = some(0, draw.nextInt(5) == 0 ? 120 : real.count(3));
        String with = "(" + w + ", " + f + ", " + m + ", " + u + ")";
        switch (draw.nextInt(5)) {
            case 0: if (draw.nextInt(3) == 0) feed(draw.nextLong(), some(1, 8)); break;
            case 1:
                tell(ruleText());
                int from = draw.nextInt(3) == 0 ? some(0, 120) : past();
                due("text(" + from + ")", real.text(from), model.text(from));
                break;
            case 2: due("force" + with, real.force(w, f, m, u), model.force(w, f, m, u)); break;
            case 3: due("why" + with, real.why(w, f, m, u), model.why(w, f, m, u)); break;
            default:
                tell(ruleText());
                int what = some(0, 2);
                due("tried(" + what + ")", real.tried(what), model.tried(what));
                break;
        }
    }

    private void lineStep() {
        int f = farm(), c = cell(), n = some(1, 5), what = some(0, 2);
        switch (draw.nextInt(14)) {
            case 0: case 1: extend(); break;
            case 2: if (draw.nextInt(8) == 0) due("clear()", real.clear(), model.clear()); break;
            case 3:
                int bits = draw.nextInt(1 << Math.min(10, Math.max(1, real.count(0))));
                if (draw.nextInt(3) > 0) bits &= draw.nextInt(1024);
                if (draw.nextInt(20) == 0) bits = draw.nextInt();
                due("best(" + bits + ")", real.best(bits), model.best(bits));
                break;
            case 4: case 5: n = some(0, 3); due("mile(" + n + ")", real.mile(n), model.mile(n)); break;
            case 6: due("span(" + n + ")", real.span(n), model.span(n)); break;
            case 7: due("pole(" + f + ")", real.pole(f), model.pole(f)); break;
            case 8: due("left()", real.left(), model.left()); break;
            case 9: case 10: due("next(" + f + ", " + what + ")", real.next(f, what), model.next(f, what)); break;
            case 11: n = some(1, 9); due("wire(" + n + ")", real.wire(n), model.wire(n)); break;
            case 12: due("volt(" + c + ")", real.volt(c), model.volt(c)); break;
            default: due("lose(" + what + ")", real.lose(what), model.lose(what)); break;
        }
    }

    private void coinStep() {
        int f = farm(), m = past(), n = some(0, draw.nextInt(2) == 0 ? 9999 : 300), c = some(1, draw.nextInt(2) == 0 ? 9999 : 99);
        String with = "(" + f + ", " + m;
        switch (draw.nextInt(10)) {
            case 0: case 1: due("read" + with + ", " + n + ")", real.read(f, m, n), model.read(f, m, n)); break;
            case 2: case 3: due("units" + with + ")", real.units(f, m), model.units(f, m)); break;
            case 4: due("bill" + with + ")", real.bill(f, m), model.bill(f, m)); break;
            case 5: due("pay" + with + ", " + c + ")", real.pay(f, m, c), model.pay(f, m, c)); break;
            case 6: due("owe" + with + ")", real.owe(f, m), model.owe(f, m)); break;
            case 7:
                int coins = some(0, draw.nextInt(2) == 0 ? 99999 : 2000), from = some(0, draw.nextInt(2) == 0 ? 120 : 10);
                int h = some(0, 20), k = some(1, 60), sum = some(0, draw.nextInt(2) == 0 ? 99999 : 500);
                due("loan(" + coins + ", " + from + ", " + h + ", " + k + ", " + sum + ")",
                    real.loan(coins, from, h, k, sum), model.loan(coins, from, h, k, sum));
                break;
            case 8: m = some(0, 240); due("due(" + m + ")", real.due(m), model.due(m)); break;
            default: due("cannot()", real.cannot(), model.cannot()); break;
        }
    }

    private void stormStep() {
        int a = cell(), b = cell(), h = some(1, 20), i = some(-1, real.count(6) - 1), what = some(0, 1);
        for (int j = 0; j < 9 && real.volt(a) == -1; j++) a = cell();
        for (int j = 0; j < 9 && real.volt(b) == -1; j++) b = cell();
        switch (draw.nextInt(9)) {
            case 0: case 1: case 2:
                due("storm(" + a + ", " + h + ")", real.storm(a, h), model.storm(a, h));
                break;
            case 3: case 4: due("order(" + i + ")", real.order(i), model.order(i)); break;
            case 5: if (draw.nextInt(4) == 0) due("fix()", real.fix(), model.fix()); break;
            default:
                due("spite(" + a + ", " + b + ", " + what + ")", real.spite(a, b, what), model.spite(a, b, what));
                break;
        }
    }

    private void imageStep() {
        if (draw.nextBoolean()) due("image()", real.image(), model.image());
        else due("undo()", real.undo(), model.undo());
    }
}
