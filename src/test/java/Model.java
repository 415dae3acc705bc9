import java.util.ArrayList;
import java.util.Comparator;
import java.util.HashMap;
import java.util.List;
import java.util.Map;
import java.util.TreeMap;

/** A second CurrentFarms, written as the document words it, with no thought of speed or room. */
final class Model {
    private static final String[] WORDS = {"mile", "rate", "fee", "late", "serve", "take"};
    private static final String[] NAMES = {"units", "load", "kind", "owed", "miles"};

    interface Named { int get(int name); }
    interface Sum { int of(Named names); }
    record Farm(int cell, int load) { }
    record Entry(int farm, int what, int month, int n, int strikes) { }
    record Clause(int word, Sum sum, Sum unless) { }
    record Rule(int month, List<Clause> clauses) { }
    record Held(int clause, int worth) { }
    record Loan(int coins, int month, int hundredths, int n, int sum) { }
    record Break(int cell, int hours) { }
    record Way(int cost, List<Integer> cells) { }

    static final class Fault extends RuntimeException {
        private static final long serialVersionUID = 1;
        final int place;
        Fault(int place) { super("fault"); this.place = place; }
    }

    private int[] heights = new int[48];
    private int[] grounds = new int[48];
    private int house;
    private int now;
    private List<Farm> farms = new ArrayList<>();
    private List<Entry> entries = new ArrayList<>();
    private String tape = "";
    private List<Rule> rules = new ArrayList<>();
    private TreeMap<Integer, Integer> up = new TreeMap<>();
    private int span = 3;
    private int wire = 2;
    private Map<List<Integer>, Integer> reads = new HashMap<>();
    private Map<List<Integer>, Integer> paid = new HashMap<>();
    private Loan loan;
    private List<Break> breaks = new ArrayList<>();
    private Model image;
    private final Map<List<Integer>, Integer> memo = new HashMap<>();

    private void become(Model m) {
        heights = m.heights.clone();
        grounds = m.grounds.clone();
        house = m.house;
        now = m.now;
        farms = new ArrayList<>(m.farms);
        entries = new ArrayList<>(m.entries);
        tape = m.tape;
        rules = new ArrayList<>(m.rules);
        up = new TreeMap<>(m.up);
        span = m.span;
        wire = m.wire;
        reads = new HashMap<>(m.reads);
        paid = new HashMap<>(m.paid);
        loan = m.loan;
        breaks = new ArrayList<>(m.breaks);
    }

    // ---- the land

    private static boolean no(int n, int least, int most) { return n < least || n > most; }
    private static boolean noCell(int c) { return no(c, 0, 47); }
    private boolean noFarm(int f) { return no(f, 0, farms.size() - 1); }

    private static boolean beside(int a, int b) {
        int dc = a % 8 - b % 8, dr = a / 8 - b / 8;
        return dc * dc + dr * dr == 1;
    }

    private static List<Integer> around(int c) {
        List<Integer> all = new ArrayList<>();
        for (int o = 0; o < 48; o++) if (beside(c, o)) all.add(o);
        return all;
    }

    private int stretch(int a, int b) {
        if (grounds[a] == 3 || grounds[b] == 3) return -5;
        int n = 10 + 2 * Math.max(heights[a] - heights[b], heights[b] - heights[a]);
        for (int c : new int[] {a, b}) {
            if (grounds[c] == 1) n += 6;
            if (grounds[c] == 2) n -= 4;
        }
        return n < 1 ? 1 : n;
    }

    int land(int cell, int what, int n) {
        if (noCell(cell) || what != 0 && what != 1) return -1;
        if (what == 0 ? no(n, 0, 9) : no(n, 0, 3)) return -2;
        boolean used = cell == house || up.containsKey(cell) || up.containsValue(cell);
        for (Farm f : farms) used |= f.cell() == cell;
        if (what == 1 && n == 3 && used) return -3;
        int[] row = what == 0 ? heights : grounds;
        int was = row[cell];
        row[cell] = n;
        return was;
    }

    int cost(int a, int b) {
        if (noCell(a) || noCell(b)) return -1;
        return beside(a, b) ? stretch(a, b) : -2;
    }

    int house(int cell) {
        if (noCell(cell)) return -1;
        if (grounds[cell] == 3 || !up.isEmpty()) return -3;
        int was = house;
        house = cell;
        return was;
    }

    int farm(int cell, int load) {
        if (noCell(cell)) return -1;
        if (no(load, 1, 50)) return -2;
        if (grounds[cell] == 3) return -3;
        if (farms.size() == 10) return -4;
        farms.add(new Farm(cell, load));
        return farms.size() - 1;
    }

    int month(int month) {
        if (no(month, now, 120)) return -2;
        int was = now;
        now = month;
        return was;
    }

    // ---- the book

    private Entry decider(int farm, int month, int e) {
        int known = e == -1 ? entries.size() : e;
        List<Entry> of = new ArrayList<>();
        for (int i = 0; i < known; i++) {
            Entry one = entries.get(i);
            boolean counts = one.what() != 5 && one.farm() == farm && one.month() <= month;
            for (int j = 0; j < known; j++) if (entries.get(j).what() == 5 && entries.get(j).strikes() == i) counts = false;
            if (counts) of.add(one);
        }
        of.sort(Comparator.comparingInt(Entry::month));
        return of.isEmpty() ? null : of.get(of.size() - 1);
    }

    /** KINDS with OWING as SERVED, some FARMS SIGNED or TAKEN instead. */
    private int[] kinds(int month, int e, int signed, int taken) {
        int[] kinds = new int[farms.size()];
        int[] need = new int[farms.size()];
        for (int f = 0; f < kinds.length; f++) {
            Entry d = decider(f, month, e);
            if ((taken >> f & 1) == 1) kinds[f] = 5;
            else if ((signed >> f & 1) == 1) kinds[f] = 1;
            else if (d != null) {
                kinds[f] = new int[] {1, 2, 3, 1, 5}[d.what()];
                need[f] = d.n();
            }
        }
        while (true) {
            int members = 0;
            for (int k : kinds) if (k == 1 || k == 3) members++;
            boolean more = false;
            for (int f = 0; f < kinds.length; f++) {
                if (kinds[f] == 2 && need[f] <= members) {
                    kinds[f] = 1;
                    more = true;
                }
            }
            if (!more) return kinds;
        }
    }

    private int bitsOf(int[] kinds) {
        int bits = 0;
        for (int f = 0; f < kinds.length; f++) if (kinds[f] == 1 || kinds[f] == 3) bits |= 1 << f;
        return bits;
    }

    private int members() { return bitsOf(kinds(now, -1, 0, 0)); }
    private boolean served(int farm, int month) { return kinds(month, -1, 0, 0)[farm] == 3; }

    int sign(int farm, int what, int month, int n) {
        if (noFarm(farm) || no(what, 0, 4)) return -1;
        if (no(month, 0, now) || what == 1 && no(n, 1, 10)) return -2;
        if (entries.size() == 120) return -4;
        entries.add(new Entry(farm, what, month, n, -1));
        return entries.size() - 1;
    }

    int strike(int entry) {
        if (no(entry, 0, entries.size() - 1)) return -1;
        Entry it = entries.get(entry);
        if (it.what() == 5) return -3;
        for (Entry other : entries) if (other.what() == 5 && other.strikes() == entry) return -3;
        if (entries.size() == 120) return -4;
        entries.add(new Entry(it.farm(), 5, it.month(), 0, entry));
        return entries.size() - 1;
    }

    private int kind(int farm, int month, int e) {
        int kind = kinds(month, e, 0, 0)[farm];
        return kind == 3 && arrears(farm, month) > 0 ? 4 : kind;
    }

    int as(int farm, int month, int e) {
        memo.clear();
        if (noFarm(farm) || no(e, -1, entries.size())) return -1;
        return no(month, 0, 120) ? -2 : kind(farm, month, e);
    }

    int many(int k, int month, int e) {
        memo.clear();
        if (no(k, 0, 5) || no(e, -1, entries.size())) return -1;
        if (no(month, 0, 120)) return -2;
        int[] above = {-1, 0, 0, 1, 3, 0};
        int n = 0;
        for (int f = 0; f < farms.size(); f++) {
            int kind = kind(f, month, e);
            while (kind != -1 && kind != k) kind = above[kind];
            if (kind == k) n++;
        }
        return n;
    }

    int tip(int farm) {
        if (noFarm(farm)) return -1;
        int[] ahead = kinds(now, -1, 0, 0), then = kinds(now, -1, 1 << farm, 0);
        int n = 0;
        for (int f = 0; f < ahead.length; f++) {
            boolean was = ahead[f] == 1 || ahead[f] == 3, is = then[f] == 1 || then[f] == 3;
            if (is && !was) n++;
        }
        return n;
    }

    // ---- rules

    /** Reads by descending; what it throws is where it stood when it could not go on. */
    private final class Descent {
        private int at = 0;

        private int c() { return at < tape.length() ? tape.charAt(at) : -1; }

        private void word(String w) {
            for (char x : w.toCharArray()) {
                if (c() != x) throw new Fault(at);
                at++;
            }
        }

        private int one(String[] words) {
            for (int i = 0; i < words.length; i++) {
                if (words[i].charAt(0) == c()) {
                    word(words[i]);
                    return i;
                }
            }
            throw new Fault(at);
        }

        List<Clause> rule() {
            List<Clause> all = new ArrayList<>();
            all.add(clause());
            while (c() != -1) {
                if (c() != ';' || all.size() == 8) throw new Fault(at);
                at++;
                all.add(clause());
            }
            return all;
        }

        private Clause clause() {
            int word = one(WORDS);
            word("=");
            Sum sum = sum(), unless = null;
            if (c() == ' ') {
                word(" unless ");
                unless = sum();
            }
            return new Clause(word, sum, unless);
        }

        private Sum sum() {
            Sum all = term();
            while (c() == '+' || c() == '-') {
                Sum left = all;
                boolean plus = c() == '+';
                at++;
                Sum right = term();
                all = n -> plus ? left.of(n) + right.of(n) : left.of(n) - right.of(n);
            }
            return all;
        }

        private Sum term() {
            Sum all = single();
            while (c() == '*' || c() == '/') {
                Sum left = all;
                boolean times = c() == '*';
                at++;
                Sum right = single();
                all = n -> {
                    int a = left.of(n), b = right.of(n);
                    return times ? a * b : b == 0 ? 0 : a / b;
                };
            }
            return all;
        }

        private Sum single() {
            if (c() == '(') {
                at++;
                Sum in = sum();
                word(")");
                return in;
            }
            if (c() == '[') return steps();
            if (c() >= '0' && c() <= '9') {
                String digits = "";
                while (c() >= '0' && c() <= '9' && digits.length() < 4 && !digits.equals("0")) {
                    digits += (char) c();
                    at++;
                }
                int value = Integer.parseInt(digits);
                return n -> value;
            }
            int name = one(NAMES);
            return n -> n.get(name);
        }

        private Sum steps() {
            at++;
            Sum units = sum();
            word(":");
            List<Sum> by = new ArrayList<>();
            by.add(sum());
            while (c() == ',' && by.size() < 4) {
                at++;
                by.add(sum());
            }
            word("]");
            return n -> {
                int u = units.of(n), all = 0;
                List<Integer> each = new ArrayList<>();
                for (Sum s : by) each.add(s.of(n));
                for (int i = 0; i < each.size() && u > 0; i++) {
                    int part = i == each.size() - 1 || u < 10 ? u : 10;
                    all += part * each.get(i);
                    u -= part;
                }
                return all;
            };
        }
    }

    private Named named(int farm, int month, int units) {
        if (farm == -1) return name -> 0;
        return name -> {
            switch (NAMES[name]) {
                case "units": return units;
                case "load": return farms.get(farm).load();
                case "kind": return kinds(month, -1, 0, 0)[farm];
                case "owed": return arrears(farm, month - 1);
                default: return Math.max(0, way(farms.get(farm).cell()).size() - 1);
            }
        };
    }

    private Held held(int word, int farm, int month, int units) {
        Named names = named(farm, month, units);
        int best = -1;
        Held held = null;
        for (int r = 0; r < rules.size(); r++) {
            Rule rule = rules.get(r);
            if (rule.month() > month || rule.month() < best) continue;
            for (int c = 0; c < rule.clauses().size(); c++) {
                Clause one = rule.clauses().get(c);
                if (one.word() != word || one.unless() != null && one.unless().of(names) > 0) continue;
                best = rule.month();
                held = new Held(100 * r + c, Math.min(99999, Math.max(0, one.sum().of(names))));
            }
        }
        if (held != null) return held;
        return new Held(-5, new int[] {3, 2 * names.get(0), 5, 10, 0, 0}[word]);
    }

    int feed(long w, int n) {
        if (no(n, 1, 8)) return -2;
        if (tape.length() + n > 120) return -4;
        for (int i = n; i > 0; i--) tape += (char) (w >>> 8 * (i - 1) & 0xff);
        return tape.length();
    }

    /** Whether it became a RULE: -1; else THE FAULT. */
    private int makeRule(int month) {
        try {
            rules.add(new Rule(month, new Descent().rule()));
            return -1;
        } catch (Fault f) {
            return f.place;
        } finally {
            tape = "";
        }
    }

    int text(int month) {
        if (no(month, 0, 120)) return -2;
        if (rules.size() == 8) return -4;
        int fault = makeRule(month);
        return fault < 0 ? rules.size() - 1 : -10 - fault;
    }

    private int refused(int word, int farm, int month, int units) {
        if (no(word, 0, 5) || no(farm, -1, farms.size() - 1)) return -1;
        return no(month, 0, 120) || no(units, 0, 9999) ? -2 : 0;
    }

    int force(int word, int farm, int month, int units) {
        memo.clear();
        int not = refused(word, farm, month, units);
        return not < 0 ? not : held(word, farm, month, units).worth();
    }

    int why(int word, int farm, int month, int units) {
        memo.clear();
        int not = refused(word, farm, month, units);
        return not < 0 ? not : held(word, farm, month, units).clause();
    }

    // ---- the line

    private boolean on(int cell) { return cell == house || up.containsKey(cell); }

    /** From a CELL to THE HOUSE, both with them; empty where it is not on THE LINE. */
    private List<Integer> way(int cell) {
        List<Integer> cells = new ArrayList<>();
        if (!on(cell)) return cells;
        cells.add(cell);
        while (cell != house) {
            cell = up.get(cell);
            cells.add(cell);
        }
        return cells;
    }

    private int onLine() {
        int bits = 0;
        for (int f = 0; f < farms.size(); f++) if (on(farms.get(f).cell())) bits |= 1 << f;
        return bits;
    }

    private boolean enough(int members) {
        return Integer.bitCount(members & onLine()) >= up.size() * held(0, -1, now, 0).worth() / 10;
    }

    int line(int a, int b) {
        if (noCell(a) || noCell(b)) return -1;
        if (!beside(a, b)) return -2;
        if (stretch(a, b) == -5 || !on(a) || on(b)) return -3;
        up.put(b, a);
        return up.size();
    }

    int clear() {
        int had = up.size();
        up.clear();
        breaks.clear();
        return had;
    }

    private static final int FAR = 1 << 20;

    private int[][] far() {
        int[][] d = new int[48][48];
        for (int a = 0; a < 48; a++) {
            for (int b = 0; b < 48; b++) {
                boolean leads = beside(a, b) && stretch(a, b) > 0;
                d[a][b] = a == b ? 0 : leads ? stretch(a, b) : FAR;
            }
        }
        for (int k = 0; k < 48; k++) {
            for (int a = 0; a < 48; a++) {
                for (int b = 0; b < 48; b++) d[a][b] = Math.min(d[a][b], d[a][k] + d[k][b]);
            }
        }
        return d;
    }

    /** The least tree that joins a root and CELLS: it forks somewhere, into two parts of them. */
    private int tree(int root, List<Integer> cells, int[][] d, Map<List<Integer>, Integer> known) {
        if (cells.isEmpty()) return 0;
        if (cells.size() == 1) return d[root][cells.get(0)];
        List<Integer> key = new ArrayList<>(cells);
        key.add(root);
        if (known.containsKey(key)) return known.get(key);
        int least = FAR;
        for (int fork = 0; fork < 48; fork++) {
            if (d[root][fork] >= FAR) continue;
            for (int split = 1; split < (1 << cells.size()) - 1; split++) {
                List<Integer> one = new ArrayList<>(), other = new ArrayList<>();
                for (int i = 0; i < cells.size(); i++) ((split >> i & 1) == 1 ? one : other).add(cells.get(i));
                int n = d[root][fork] + forked(fork, one, d, known) + forked(fork, other, d, known);
                least = Math.min(least, n);
            }
        }
        known.put(key, least);
        return least;
    }

    private int forked(int fork, List<Integer> cells, int[][] d, Map<List<Integer>, Integer> known) {
        return Math.min(FAR, tree(fork, cells, d, known));
    }

    int best(int bits) {
        if (no(bits, 0, (1 << farms.size()) - 1) || Integer.bitCount(bits) > 6) return -2;
        List<Integer> cells = new ArrayList<>();
        for (int f = 0; f < farms.size(); f++) {
            if ((bits >> f & 1) == 1 && !cells.contains(farms.get(f).cell())) cells.add(farms.get(f).cell());
        }
        int n = tree(house, cells, far(), new HashMap<>());
        return n >= FAR ? -5 : n;
    }

    int mile(int what) {
        memo.clear();
        if (no(what, 0, 3)) return -1;
        if (what == 0) return enough(members()) ? 1 : 0;
        if (what == 1) return up.size();
        if (what == 2) return Integer.bitCount(members() & onLine());
        int all = 0;
        for (Map.Entry<Integer, Integer> e : up.entrySet()) all += stretch(e.getKey(), e.getValue());
        return all;
    }

    int span(int n) {
        if (no(n, 1, 5)) return -2;
        int was = span;
        span = n;
        return was;
    }

    /** The fewest poles from the first CELL of a way on, one there and one at its end. */
    private int poles(List<Integer> way) {
        if (way.size() == 1) return 1;
        int least = 99;
        for (int n = 1; n <= span && n < way.size(); n++) {
            int ends = Math.max(heights[way.get(0)], heights[way.get(n)]);
            boolean free = true;
            for (int i = 1; i < n; i++) free &= heights[way.get(i)] <= ends;
            if (!free) continue;
            List<Integer> rest = way.subList(n, way.size());
            List<Integer> key = List.of(-7, rest.get(0), rest.size());
            if (!memo.containsKey(key)) memo.put(key, poles(rest));
            least = Math.min(least, 1 + memo.get(key));
        }
        return least;
    }

    int pole(int farm) {
        memo.clear();
        if (noFarm(farm)) return -1;
        return on(farms.get(farm).cell()) ? poles(way(farms.get(farm).cell())) : -3;
    }

    int left() { return members() & ~onLine(); }

    /** All least ways from a CELL to THE LINE are looked at; null: there is none. */
    private Way least(int cell) {
        int[][] d = far();
        int best = FAR;
        for (int c = 0; c < 48; c++) if (on(c)) best = Math.min(best, d[cell][c]);
        if (best >= FAR) return null;
        List<List<Integer>> ways = new ArrayList<>();
        follow(cell, best, d, new ArrayList<>(), ways);
        ways.sort((x, y) -> {
            for (int i = 0; i < Math.min(x.size(), y.size()); i++) {
                if (!x.get(i).equals(y.get(i))) return x.get(i) - y.get(i);
            }
            return x.size() - y.size();
        });
        return new Way(best, ways.get(0));
    }

    private void follow(int cell, int rest, int[][] d, List<Integer> way, List<List<Integer>> ways) {
        way.add(cell);
        if (on(cell)) {
            if (rest == 0) ways.add(new ArrayList<>(way));
        } else {
            for (int o : around(cell)) {
                if (stretch(cell, o) < 0 || stretch(cell, o) > rest) continue;
                boolean leads = false;
                for (int c = 0; c < 48; c++) leads |= on(c) && d[o][c] == rest - stretch(cell, o);
                if (leads) follow(o, rest - stretch(cell, o), d, way, ways);
            }
        }
        way.remove(way.size() - 1);
    }

    private int signs(Way way, int farm, int members) {
        int on = 0;
        for (int f = 0; f < farms.size(); f++) {
            int at = way.cells().indexOf(farms.get(f).cell());
            if (at >= 0 && at < way.cells().size() - 1) on |= 1 << f;
        }
        int serve = held(4, farm, now, 0).worth();
        int all = Integer.bitCount(on), are = Integer.bitCount(on & members);
        for (int more = 0; are + more <= all; more++) {
            if (way.cost() <= serve + 20 * (are + more)) return more;
        }
        return -5;
    }

    int next(int farm, int what) {
        memo.clear();
        if (noFarm(farm) || no(what, 0, 2)) return -1;
        if ((left() >> farm & 1) == 0) return -3;
        Way way = least(farms.get(farm).cell());
        if (way == null) return what == 1 ? 0 : -5;
        if (what == 0) return way.cost();
        int signs = signs(way, farm, members());
        return what == 1 ? (signs == 0 ? 1 : 0) : signs;
    }

    // ---- volts

    int wire(int n) {
        if (no(n, 1, 9)) return -2;
        int was = wire;
        wire = n;
        return was;
    }

    private final class Sweeps {
        private Map<Integer, Integer> volts = new TreeMap<>();
        private Map<Integer, Integer> draws = new TreeMap<>();
        int n = 0;
        boolean settle = false;

        Sweeps() {
            int[] kinds = kinds(now, -1, 0, 0);
            volts.put(house, 1000);
            for (int c : up.keySet()) volts.put(c, 1000);
            while (n < 30 && !settle) {
                draws = new TreeMap<>();
                for (int f = 0; f < farms.size(); f++) {
                    int c = farms.get(f).cell();
                    if (kinds[f] != 3 || !volts.containsKey(c) || volts.get(c) <= 0) continue;
                    draws.merge(c, farms.get(f).load() * 1000 / volts.get(c), Integer::sum);
                }
                Map<Integer, Integer> next = new TreeMap<>();
                settle = true;
                for (int c : volts.keySet()) {
                    next.put(c, after(c));
                    settle &= Math.abs(next.get(c) - volts.get(c)) <= 1;
                }
                volts = next;
                n++;
            }
        }

        private int after(int c) {
            return c == house ? 1000 : after(up.get(c)) - wire * carried(c) / 10;
        }

        int carried(int c) {
            int all = draws.getOrDefault(c, 0);
            for (Map.Entry<Integer, Integer> e : up.entrySet()) if (e.getValue() == c) all += carried(e.getKey());
            return all;
        }

        int lost() {
            long all = 0;
            for (int c : up.keySet()) all += (long) wire * carried(c) * carried(c);
            return (int) Math.min(1000000000, all / 1000);
        }
    }

    int volt(int cell) { return noCell(cell) || !on(cell) ? -1 : new Sweeps().volts.get(cell); }

    int lose(int what) {
        if (no(what, 0, 2)) return -1;
        Sweeps s = new Sweeps();
        return what == 0 ? s.n : what == 1 ? (s.settle ? 1 : 0) : s.lost();
    }

    // ---- meters, coins

    private boolean wasRead(int farm, int month) {
        return served(farm, month) && reads.containsKey(List.of(farm, month));
    }

    private int readAhead(int farm, int month) {
        for (int m = month - 1; m >= 0; m--) if (wasRead(farm, m)) return m;
        return -1;
    }

    /** What was READ less what went ahead; below 0 it is taken off the next. */
    private int raw(int farm, int month) {
        int ahead = readAhead(farm, month);
        int n = reads.get(List.of(farm, month));
        if (ahead >= 0) n -= reads.get(List.of(farm, ahead)) - Math.min(0, raw(farm, ahead));
        for (int m = ahead + 1; m < month; m++) n -= unitsOf(farm, m);
        return n;
    }

    private int unitsOf(int farm, int month) {
        if (!served(farm, month)) return 0;
        List<Integer> key = List.of(-1, farm, month);
        if (memo.containsKey(key)) return memo.get(key);
        int n;
        if (wasRead(farm, month)) {
            n = Math.max(0, raw(farm, month));
        } else {
            int last = readAhead(farm, month);
            int ahead = last < 0 ? -1 : readAhead(farm, last);
            n = last < 0 ? 10 : unitsOf(farm, last) / (ahead < 0 ? 1 : last - ahead);
        }
        memo.put(key, n);
        return n;
    }

    private int billOf(int farm, int month) {
        if (!served(farm, month)) return 0;
        int units = unitsOf(farm, month);
        return held(1, farm, month, units).worth() + held(2, farm, month, units).worth();
    }

    private int arrears(int farm, int month) {
        if (month < 0) return 0;
        List<Integer> key = List.of(-2, farm, month);
        if (memo.containsKey(key)) return memo.get(key);
        long n = arrears(farm, month - 1);
        n += billOf(farm, month) - paid.getOrDefault(List.of(farm, month), 0);
        if (n > 0) n += n * held(3, farm, month, 0).worth() / 100;
        int kept = (int) Math.max(-1000000000, Math.min(1000000000, n));
        memo.put(key, kept);
        return kept;
    }

    int read(int farm, int month, int n) {
        if (noFarm(farm) || no(month, 0, now)) return -1;
        if (no(n, 0, 9999)) return -2;
        if (!served(farm, month)) return -3;
        Integer was = reads.put(List.of(farm, month), n);
        return was == null ? -5 : was;
    }

    int units(int farm, int month) {
        memo.clear();
        return noFarm(farm) || no(month, 0, now) ? -1 : unitsOf(farm, month);
    }

    int bill(int farm, int month) {
        memo.clear();
        return noFarm(farm) || no(month, 0, now) ? -1 : billOf(farm, month);
    }

    int pay(int farm, int month, int coins) {
        if (noFarm(farm) || no(month, 0, now)) return -1;
        return no(coins, 1, 9999) ? -2 : paid.merge(List.of(farm, month), coins, Integer::sum);
    }

    int owe(int farm, int month) {
        memo.clear();
        return noFarm(farm) || no(month, 0, now) ? -1 : arrears(farm, month);
    }

    int loan(int coins, int month, int hundredths, int n, int sum) {
        boolean bad = no(coins, 0, 99999) || no(month, 0, 120) || no(hundredths, 0, 20) || no(n, 1, 60);
        if (bad || no(sum, 0, 99999)) return -2;
        loan = new Loan(coins, month, hundredths, n, sum);
        return 1;
    }

    /** What is left ahead of the MONTH that is so many behind the loan's. */
    private int rest(int months) {
        int rest = loan.coins();
        for (int gone = 1; gone < months; gone++) rest -= rest / (loan.n() - gone + 1);
        return rest;
    }

    int due(int month) {
        if (no(month, 0, 240)) return -1;
        if (loan == null || no(month - loan.month(), 1, loan.n())) return 0;
        int behind = month - loan.month();
        return rest(behind) / (loan.n() - behind + 1) + rest(behind) * loan.hundredths() / 100;
    }

    int cannot() {
        if (loan == null) return -3;
        for (int m = loan.month(); m <= loan.month() + loan.n(); m++) {
            long all = loan.sum();
            for (int p = loan.month(); p <= m; p++) {
                for (int f = 0; f < farms.size(); f++) all += paid.getOrDefault(List.of(f, p), 0);
                all -= due(p);
            }
            if (all < 0) return m;
        }
        return -5;
    }

    // ---- storms, the firm

    int storm(int cell, int hours) {
        if (noCell(cell)) return -1;
        if (no(hours, 1, 20)) return -2;
        if (!up.containsKey(cell)) return -3;
        for (Break b : breaks) if (b.cell() == cell) return -3;
        if (breaks.size() == 6) return -4;
        breaks.add(new Break(cell, hours));
        return breaks.size();
    }

    private int milk(List<Integer> row) {
        int[] kinds = kinds(now, -1, 0, 0);
        int all = 0;
        for (int f = 0; f < farms.size(); f++) {
            if (kinds[f] != 3) continue;
            int time = 0, dark = 0;
            for (int b : row) {
                time += breaks.get(b).hours();
                if (way(farms.get(f).cell()).contains(breaks.get(b).cell())) dark = time;
            }
            all += dark * farms.get(f).load();
        }
        return all;
    }

    private void rows(List<Integer> row, List<List<Integer>> all) {
        if (row.size() == breaks.size()) all.add(new ArrayList<>(row));
        for (int b = 0; b < breaks.size(); b++) {
            if (row.contains(b)) continue;
            row.add(b);
            rows(row, all);
            row.remove(row.size() - 1);
        }
    }

    int order(int i) {
        if (no(i, -1, breaks.size() - 1)) return -1;
        List<List<Integer>> all = new ArrayList<>();
        rows(new ArrayList<>(), all);
        List<Integer> best = all.get(0);
        int least = milk(best);
        for (List<Integer> row : all) {
            int milk = milk(row);
            if (milk < least) {
                best = row;
                least = milk;
            }
        }
        return i == -1 ? least : breaks.get(best.get(i)).cell();
    }

    int fix() {
        int had = breaks.size();
        breaks.clear();
        return had;
    }

    int spite(int a, int b, int what) {
        memo.clear();
        if (noCell(a) || noCell(b) || no(what, 0, 1)) return -1;
        if (!on(a) || !on(b)) return -3;
        List<Integer> one = way(a), other = way(b), cells = new ArrayList<>();
        int meeting = house;
        for (int c : one) {
            if (other.contains(c)) {
                meeting = c;
                break;
            }
        }
        cells.addAll(one.subList(0, one.indexOf(meeting) + 1));
        cells.addAll(other.subList(0, other.indexOf(meeting)));
        int[] kinds = kinds(now, -1, 0, 0);
        int gone = 0;
        for (int f = 0; f < farms.size(); f++) {
            boolean goes = kinds[f] != 5 && cells.contains(farms.get(f).cell());
            if (goes && held(5, f, now, 0).worth() == 0) gone |= 1 << f;
        }
        if (what == 0) return Integer.bitCount(gone);
        return enough(bitsOf(kinds(now, -1, 0, gone))) ? 0 : 1;
    }

    int tried(int what) {
        memo.clear();
        if (no(what, 0, 2)) return -1;
        int fault = makeRule(now);
        if (fault >= 0) return -10 - fault;
        int answer = 0;
        if (what == 0) answer = enough(members()) ? 1 : 0;
        if (what == 1) answer = bringAll();
        for (int f = 0; what == 2 && f < farms.size(); f++) answer += billOf(f, now);
        rules.remove(rules.size() - 1);
        return answer;
    }

    private int bringAll() {
        TreeMap<Integer, Integer> was = new TreeMap<>(up);
        int all = 0;
        for (int f = 0; f < farms.size(); f++) {
            if ((left() >> f & 1) == 0) continue;
            Way way = least(farms.get(f).cell());
            if (way == null || signs(way, f, members()) != 0) continue;
            all += way.cost();
            for (int i = 1; i < way.cells().size(); i++) up.put(way.cells().get(i - 1), way.cells().get(i));
        }
        up = was;
        return all;
    }

    // ---- the image

    int image() {
        image = new Model();
        image.become(this);
        return now;
    }

    int undo() {
        if (image == null) return -3;
        become(image);
        return now;
    }

    int count(int what) {
        int[] all = {farms.size(), entries.size(), rules.size(), now, tape.length(), up.size(), breaks.size(),
            span, wire, house};
        return no(what, 0, 9) ? -1 : all[what];
    }
}
