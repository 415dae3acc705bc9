import java.util.Arrays;

/**
 * Current to farms, as ../shared/DOC.md promises it: land and farms, the book of entries, rules read
 * from a tape, the line with its poles, volts and breaks, meters, coins, the firm and an image.
 */
public final class CurrentFarms {
    public static final int NONE = -1, BAD = -2, STATE = -3, FULL = -4;

    /** What many calls answer where there is nothing to tell ("-5: never, none, nothing"). */
    private static final int NEVER = -5;
    /** What text() and tried() answer is this less THE FAULT. */
    private static final int FAULTY = -10;

    private static final int COLUMNS = 8, CELLS = 48, FARMS = 10, LAST_MONTH = 120, ENTRIES = 120;
    private static final int MONTHS = LAST_MONTH + 1;
    private static final int TAPE = 120, CLAUSES = 8, RULES = 8, BREAKS = 6, TERMINALS = 6;
    private static final int LAST_LOAN_MONTH = 240;
    private static final int MOST = 1000000000;
    /** No cell: the line's own mark, never an answer. */
    private static final int NOWHERE = -1;

    private static final int WOOD = 1, ROAD = 2, WATER = 3;

    private static final int SIGNED = 0, WAVERING = 1, SERVED = 2, CUT = 3, TAKEN = 4, STRUCK = 5;

    private static final int KIND_FARM = 0, KIND_MEMBER = 1, KIND_WAVERING = 2;
    private static final int KIND_SERVED = 3, KIND_OWING = 4, KIND_GONE = 5, KINDS = 6;

    private static final int MILE = 0, RATE = 1, FEE = 2, LATE = 3, SERVE = 4, TAKE = 5, WORDS = 6;

    private static final int UNITS = 0, LOAD = 1, KIND = 2, OWED = 3, MILES = 4, NAMES = 5;

    private final State here;
    private final State kept;
    private boolean imaged;
    private final Reader reader;
    private final Account account;
    private final Ways ways;
    private final Volts volts;
    /** THE LINE as it would be while tried() brings farms in one by one. */
    private final Line trial;

    public CurrentFarms() {
        State state = new State();
        here = state;
        kept = new State();
        reader = new Reader(state.rules);
        account = new Account(state);
        ways = new Ways(state.land);
        volts = new Volts(state);
        trial = new Line();
    }

    // ---- land, farms

    public int land(int cell, int what, int n) {
        if (!isCell(cell) || !within(what, 0, 1)) return NONE;
        if (!within(n, 0, what == 0 ? 9 : WATER)) return BAD;
        if (what == 1 && n == WATER && isNeeded(cell)) return STATE;
        int[] row = what == 0 ? here.land.height : here.land.ground;
        int was = at(row, cell);
        put(row, cell, n);
        return was;
    }

    public int cost(int a, int b) {
        if (!isCell(a) || !isCell(b)) return NONE;
        if (!beside(a, b)) return BAD;
        return here.land.stretch(a, b);
    }

    public int house(int cell) {
        if (!isCell(cell)) return NONE;
        if (here.land.isWater(cell) || here.line.size > 0) return STATE;
        int was = here.land.power;
        here.land.power = cell;
        return was;
    }

    public int farm(int cell, int load) {
        if (!isCell(cell)) return NONE;
        if (!within(load, 1, 50)) return BAD;
        if (here.land.isWater(cell)) return STATE;
        if (here.land.farms >= FARMS) return FULL;
        return here.land.settle(cell, load);
    }

    public int month(int month) {
        if (!within(month, here.now, LAST_MONTH)) return BAD;
        int was = here.now;
        here.now = month;
        return was;
    }

    // ---- the book

    public int sign(int farm, int what, int month, int n) {
        if (!isFarm(farm) || !within(what, SIGNED, TAKEN)) return NONE;
        if (!isPast(month) || what == WAVERING && !within(n, 1, 10)) return BAD;
        if (here.book.size >= ENTRIES) return FULL;
        return here.book.enter(farm, what, month, n);
    }

    public int strike(int entry) {
        if (!within(entry, 0, here.book.size - 1)) return NONE;
        if (!here.book.isStanding(entry)) return STATE;
        if (here.book.size >= ENTRIES) return FULL;
        return here.book.cross(entry);
    }

    public int as(int farm, int month, int e) {
        if (!isFarm(farm) || !isBefore(e)) return NONE;
        if (!within(month, 0, LAST_MONTH)) return BAD;
        return owing(farm, month, here.book.kindIn(farm, month, e));
    }

    public int many(int k, int month, int e) {
        if (!within(k, 0, KINDS - 1) || !isBefore(e)) return NONE;
        if (!within(month, 0, LAST_MONTH)) return BAD;
        int n = 0;
        for (int f = 0; f < here.land.farms; f++) {
            int kind = here.book.kindIn(f, month, e);
            if (k == KIND_OWING) kind = owing(f, month, kind);
            if (isUnder(kind, k)) n++;
        }
        return n;
    }

    public int tip(int farm) {
        if (!isFarm(farm)) return NONE;
        int ahead = here.book.membersIn(here.now, 0, 0);
        int behind = here.book.membersIn(here.now, 1 << farm, 0);
        return Integer.bitCount(behind) - Integer.bitCount(ahead);
    }

    // ---- rules

    public int feed(long w, int n) {
        if (!within(n, 1, 8)) return BAD;
        if (here.rules.tapeSize + n > TAPE) return FULL;
        for (int i = n - 1; i >= 0; i--) {
            here.rules.append((int) (w >> 8 * i & 255));
        }
        return here.rules.tapeSize;
    }

    public int text(int month) {
        if (!within(month, 0, LAST_MONTH)) return BAD;
        if (here.rules.size >= RULES) return FULL;
        int fault = reader.makeRule(month);
        if (fault >= 0) return FAULTY - fault;
        here.rules.size++;
        return here.rules.size - 1;
    }

    public int force(int word, int farm, int month, int units) {
        int refused = refusedOfWord(word, farm, month, units);
        return refused < 0 ? refused : account.ruled(word, farm, month, units);
    }

    public int why(int word, int farm, int month, int units) {
        int refused = refusedOfWord(word, farm, month, units);
        if (refused < 0) return refused;
        account.ruled(word, farm, month, units);
        return here.rules.by;
    }

    // ---- the line

    public int line(int a, int b) {
        if (!isCell(a) || !isCell(b)) return NONE;
        if (!beside(a, b)) return BAD;
        if (here.land.stretch(a, b) < 0 || !isOnLine(a) || isOnLine(b)) return STATE;
        here.line.add(a, b);
        return here.line.size;
    }

    public int clear() {
        int had = here.line.size;
        here.line.empty();
        here.breaks.size = 0;
        return had;
    }

    public int best(int farms) {
        int all = (1 << here.land.farms) - 1;
        if ((farms & ~all) != 0 || Integer.bitCount(farms) > TERMINALS) return BAD;
        return ways.leastTree(farms);
    }

    public int mile(int what) {
        if (!within(what, 0, 3)) return NONE;
        if (what == 1) return here.line.size;
        if (what == 3) return here.line.costOn(here.land);
        int members = here.book.membersIn(here.now, 0, 0);
        if (what == 2) return Integer.bitCount(members & farmsOnLine());
        return flag(isEnough(members));
    }

    public int span(int n) {
        if (!within(n, 1, 5)) return BAD;
        int was = here.line.span;
        here.line.span = n;
        return was;
    }

    public int pole(int farm) {
        if (!isFarm(farm)) return NONE;
        int cell = here.land.cellOf(farm);
        return isOnLine(cell) ? here.line.polesTo(cell, here.land) : STATE;
    }

    public int left() {
        return here.book.membersIn(here.now, 0, 0) & ~farmsOnLine();
    }

    public int next(int farm, int what) {
        if (!isFarm(farm) || !within(what, 0, 2)) return NONE;
        int members = here.book.membersIn(here.now, 0, 0);
        if (!holds(members & ~farmsOnLine(), farm)) return STATE;
        boolean leads = ways.reach(here.line, here.land.cellOf(farm));
        if (!leads) return what == 1 ? 0 : NEVER;
        if (what == 0) return ways.cost;
        int signs = signsFor(members, account.ruled(SERVE, farm, here.now, 0));
        return what == 1 ? flag(signs == 0) : signs;
    }

    // ---- volts

    public int wire(int n) {
        if (!within(n, 1, 9)) return BAD;
        int was = here.line.resistance;
        here.line.resistance = n;
        return was;
    }

    public int volt(int cell) {
        if (!isCell(cell) || !isOnLine(cell)) return NONE;
        volts.sweep();
        return at(volts.volts, cell);
    }

    public int lose(int what) {
        if (!within(what, 0, 2)) return NONE;
        volts.sweep();
        if (what == 0) return volts.sweeps;
        return what == 1 ? flag(volts.settled) : volts.lost();
    }

    // ---- meters, coins

    public int read(int farm, int month, int n) {
        if (!isFarm(farm) || !isPast(month)) return NONE;
        if (!within(n, 0, 9999)) return BAD;
        if (here.book.kindIn(farm, month, -1) != KIND_SERVED) return STATE;
        int was = here.coins.readOf(farm, month);
        put(here.coins.reads, slot(farm, month), n);
        return was;
    }

    public int units(int farm, int month) {
        if (!isFarm(farm) || !isPast(month)) return NONE;
        account.walk(farm, month);
        return account.units;
    }

    public int bill(int farm, int month) {
        if (!isFarm(farm) || !isPast(month)) return NONE;
        account.walk(farm, month);
        return account.bill;
    }

    public int pay(int farm, int month, int coins) {
        if (!isFarm(farm) || !isPast(month)) return NONE;
        if (!within(coins, 1, 9999)) return BAD;
        int all = here.coins.paidOf(farm, month) + coins;
        put(here.coins.paid, slot(farm, month), all);
        return all;
    }

    public int owe(int farm, int month) {
        if (!isFarm(farm) || !isPast(month)) return NONE;
        account.walk(farm, month);
        return account.arrears;
    }

    public int loan(int coins, int month, int hundredths, int n, int sum) {
        if (!within(coins, 0, 99999) || !within(month, 0, LAST_MONTH)) return BAD;
        if (!within(hundredths, 0, 20) || !within(n, 1, 60) || !within(sum, 0, 99999)) return BAD;
        here.coins.lend(coins, month, hundredths, n, sum);
        return 1;
    }

    public int due(int month) {
        return within(month, 0, LAST_LOAN_MONTH) ? here.coins.dueIn(month) : NONE;
    }

    public int cannot() {
        return here.coins.months > 0 ? here.coins.firstShort() : STATE;
    }

    // ---- storms, the firm

    public int storm(int cell, int hours) {
        if (!isCell(cell)) return NONE;
        if (!within(hours, 1, 20)) return BAD;
        if (here.line.ahead(cell) == NOWHERE || here.breaks.placeOf(cell) >= 0) return STATE;
        if (here.breaks.size >= BREAKS) return FULL;
        here.breaks.add(cell, hours);
        return here.breaks.size;
    }

    public int order(int i) {
        if (!within(i, -1, here.breaks.size - 1)) return NONE;
        here.breaks.choose(here);
        return i < 0 ? here.breaks.lost : at(here.breaks.cells, at(here.breaks.chosen, i));
    }

    public int fix() {
        int had = here.breaks.size;
        here.breaks.size = 0;
        return had;
    }

    public int spite(int a, int b, int what) {
        if (!isCell(a) || !isCell(b) || !within(what, 0, 1)) return NONE;
        if (!isOnLine(a) || !isOnLine(b)) return STATE;
        int along = here.land.farmsOn(here.line.between(a, b));
        along &= ~here.book.decidedBy(TAKEN, here.now);
        int taken = 0;
        for (int f = 0; f < here.land.farms; f++) {
            if (holds(along, f) && account.ruled(TAKE, f, here.now, 0) == 0) taken |= 1 << f;
        }
        if (what == 0) return Integer.bitCount(taken);
        return flag(!isEnough(here.book.membersIn(here.now, 0, taken)));
    }

    public int tried(int what) {
        if (!within(what, 0, 2)) return NONE;
        int fault = reader.makeRule(here.now);
        if (fault >= 0) return FAULTY - fault;
        here.rules.size++;
        int members = here.book.membersIn(here.now, 0, 0);
        int answer = what == 0 ? flag(isEnough(members)) : what == 1 ? costToBringIn(members) : billsOfNow();
        here.rules.size--;
        return answer;
    }

    // ---- the image

    public int image() {
        kept.take(here);
        imaged = true;
        return here.now;
    }

    public int undo() {
        if (!imaged) return STATE;
        here.take(kept);
        return here.now;
    }

    public int count(int what) {
        switch (what) {
            case 0: return here.land.farms;
            case 1: return here.book.size;
            case 2: return here.rules.size;
            case 3: return here.now;
            case 4: return here.rules.tapeSize;
            case 5: return here.line.size;
            case 6: return here.breaks.size;
            case 7: return here.line.span;
            case 8: return here.line.resistance;
            case 9: return here.land.power;
            default: return NONE;
        }
    }

    // ---- what several calls ask

    private boolean isFarm(int farm) {
        return within(farm, 0, here.land.farms - 1);
    }

    private boolean isPast(int month) {
        return within(month, 0, here.now);
    }

    private boolean isBefore(int e) {
        return within(e, -1, here.book.size);
    }

    private boolean isOnLine(int cell) {
        return cell == here.land.power || here.line.ahead(cell) != NOWHERE;
    }

    private boolean isNeeded(int cell) {
        return isOnLine(cell) || here.land.farmsOn(1L << cell) != 0;
    }

    private int farmsOnLine() {
        return here.land.farmsOn(here.line.cells(here.land.power));
    }

    private int refusedOfWord(int word, int farm, int month, int units) {
        if (!within(word, 0, WORDS - 1) || farm != -1 && !isFarm(farm)) return NONE;
        return within(month, 0, LAST_MONTH) && within(units, 0, 9999) ? 0 : BAD;
    }

    /** The KIND again, which may be OWING where it is SERVED. */
    private int owing(int farm, int month, int kind) {
        if (kind != KIND_SERVED) return kind;
        account.walk(farm, month);
        return account.arrears > 0 ? KIND_OWING : KIND_SERVED;
    }

    private boolean isEnough(int members) {
        int asked = here.line.size * account.ruled(MILE, -1, here.now, 0) / 10;
        return Integer.bitCount(members & farmsOnLine()) >= asked;
    }

    /** FEWEST SIGNS for the way that was reached last. */
    private int signsFor(int members, int serve) {
        int on = here.land.farmsOn(ways.fresh);
        int lacking = ways.cost - serve - 20 * Integer.bitCount(on & members);
        int signs = lacking <= 0 ? 0 : (lacking + 19) / 20;
        return signs > Integer.bitCount(on & ~members) ? NEVER : signs;
    }

    private int costToBringIn(int members) {
        int all = 0;
        trial.take(here.line);
        for (int f = 0; f < here.land.farms; f++) {
            int cell = here.land.cellOf(f);
            boolean on = cell == here.land.power || trial.ahead(cell) != NOWHERE;
            if (!holds(members, f) || on) continue;
            int serve = account.ruled(SERVE, f, here.now, 0);
            if (ways.reach(trial, cell) && signsFor(members, serve) == 0) {
                all += ways.cost;
                ways.layOn(trial);
            }
        }
        return all;
    }

    private int billsOfNow() {
        int all = 0;
        for (int f = 0; f < here.land.farms; f++) {
            account.walk(f, here.now);
            all += account.bill;
        }
        return all;
    }

    // ---- small helpers

    private static int at(int[] row, int i) {
        return i >= 0 && i < row.length ? row[i] : 0;
    }

    private static void put(int[] row, int i, int value) {
        if (i >= 0 && i < row.length) row[i] = value;
    }

    private static void copy(int[] from, int[] to) {
        System.arraycopy(from, 0, to, 0, Math.min(from.length, to.length));
    }

    /** Cut towards 0; by 0 it is 0. */
    private static int parted(int n, int by) {
        return by == 0 ? 0 : n / by;
    }

    private static boolean within(int n, int least, int most) {
        return n >= least && n <= most;
    }

    private static boolean holds(int bits, int i) {
        return (bits >> i & 1) == 1;
    }

    private static int flag(boolean so) {
        return so ? 1 : 0;
    }

    private static boolean isCell(int cell) {
        return within(cell, 0, CELLS - 1);
    }

    private static boolean beside(int a, int b) {
        int columns = Math.abs(a % COLUMNS - b % COLUMNS);
        int rows = Math.abs(a / COLUMNS - b / COLUMNS);
        return columns + rows == 1;
    }

    /** The place of a FARM's MONTH in the rows that hold one for each; -1: there is none. */
    private static int slot(int farm, int month) {
        boolean is = farm >= 0 && farm < FARMS && month >= 0 && month < MONTHS;
        return is ? farm * MONTHS + month : -1;
    }

    /** Whether a KIND is k or one under that; OWING may be told as SERVED where k isn't OWING. */
    private static boolean isUnder(int kind, int k) {
        if (k == KIND_FARM || kind == k) return true;
        return k == KIND_MEMBER && kind == KIND_SERVED;
    }

    // ---- what THE IMAGE holds

    private static final class State {
        final Land land = new Land();
        final Book book = new Book();
        final Rules rules = new Rules();
        final Line line = new Line();
        final Breaks breaks = new Breaks();
        final Coins coins = new Coins();
        int now;

        void take(State other) {
            land.take(other.land);
            book.take(other.book);
            rules.take(other.rules);
            line.take(other.line);
            breaks.take(other.breaks);
            coins.take(other.coins);
            now = other.now;
        }
    }

    /** ==== 1: CELLS, THE HOUSE and the FARMS in them. */
    private static final class Land {
        final int[] height = new int[CELLS];
        final int[] ground = new int[CELLS];
        final int[] farmCells = new int[FARMS];
        final int[] loads = new int[FARMS];
        int farms;
        int power;

        void take(Land other) {
            copy(other.height, height);
            copy(other.ground, ground);
            copy(other.farmCells, farmCells);
            copy(other.loads, loads);
            farms = other.farms;
            power = other.power;
        }

        int settle(int cell, int load) {
            put(farmCells, farms, cell);
            put(loads, farms, load);
            farms++;
            return farms - 1;
        }

        int cellOf(int farm) {
            return at(farmCells, farm);
        }

        boolean isWater(int cell) {
            return at(ground, cell) == WATER;
        }

        /** COST of a stretch between CELLS that are BESIDE one another. */
        int stretch(int a, int b) {
            int one = at(ground, a), other = at(ground, b);
            if (one == WATER || other == WATER) return NEVER;
            int all = 10 + 2 * Math.abs(at(height, a) - at(height, b));
            all += 6 * (flag(one == WOOD) + flag(other == WOOD));
            all -= 4 * (flag(one == ROAD) + flag(other == ROAD));
            return Math.max(1, all);
        }

        /** FARMS as bits whose CELLS are among some (bits, too). */
        int farmsOn(long cells) {
            int bits = 0;
            for (int f = 0; f < farms; f++) {
                if ((cells >> cellOf(f) & 1) == 1) bits |= 1 << f;
            }
            return bits;
        }
    }

    /** ==== 2: ENTRIES, and the KINDS of FARMS by them. */
    private static final class Book {
        final int[] farms = new int[ENTRIES];
        final int[] whats = new int[ENTRIES];
        final int[] months = new int[ENTRIES];
        final int[] needs = new int[ENTRIES];
        /** The ENTRY that struck one; 0: none, as ENTRY 0 has none ahead to strike. */
        final int[] strikers = new int[ENTRIES];
        int size;
        /** For each FARM the ENTRY that decides in the MONTH looked at last; -1: none. */
        private final int[] deciders = new int[FARMS];

        void take(Book other) {
            copy(other.farms, farms);
            copy(other.whats, whats);
            copy(other.months, months);
            copy(other.needs, needs);
            copy(other.strikers, strikers);
            size = other.size;
        }

        int enter(int farm, int what, int month, int need) {
            put(farms, size, farm);
            put(whats, size, what);
            put(months, size, month);
            put(needs, size, need);
            put(strikers, size, 0);
            size++;
            return size - 1;
        }

        int cross(int entry) {
            put(strikers, entry, size);
            return enter(at(farms, entry), STRUCK, at(months, entry), 0);
        }

        boolean isStanding(int entry) {
            return at(whats, entry) != STRUCK && at(strikers, entry) == 0;
        }

        /** Finds what decides in a MONTH by the first e ENTRIES (-1: all). */
        private void look(int month, int e) {
            int known = e < 0 ? size : e;
            Arrays.fill(deciders, -1);
            for (int i = 0; i < known; i++) {
                int striker = at(strikers, i), farm = at(farms, i);
                boolean stands = at(whats, i) != STRUCK && (striker == 0 || striker >= known);
                if (!stands || at(months, i) > month) continue;
                int was = at(deciders, farm);
                if (was < 0 || at(months, i) >= at(months, was)) put(deciders, farm, i);
            }
        }

        /** What the deciding ENTRY is; -1: there is none. */
        private int decided(int farm) {
            int entry = at(deciders, farm);
            return entry < 0 ? -1 : at(whats, entry);
        }

        /** FARMS as bits of which such an ENTRY decides in a MONTH. */
        int decidedBy(int what, int month) {
            look(month, -1);
            int bits = 0;
            for (int f = 0; f < FARMS; f++) {
                if (decided(f) == what) bits |= 1 << f;
            }
            return bits;
        }

        /** MEMBERS of a MONTH as bits, if some FARMS were SIGNED and others TAKEN then. */
        int membersIn(int month, int signed, int taken) {
            look(month, -1);
            return members(signed, taken);
        }

        private int members(int signed, int taken) {
            int members = signed;
            for (int f = 0; f < FARMS; f++) {
                int what = decided(f);
                if (what == SIGNED || what == SERVED || what == CUT) members |= 1 << f;
            }
            members &= ~taken;
            for (int round = 0; round < FARMS; round++) {
                members |= reached(Integer.bitCount(members)) & ~taken;
            }
            return members;
        }

        /** WAVERING FARMS as bits for which so many MEMBERS are enough. */
        private int reached(int members) {
            int bits = 0;
            for (int f = 0; f < FARMS; f++) {
                int entry = at(deciders, f);
                boolean wavers = entry >= 0 && at(whats, entry) == WAVERING;
                if (wavers && at(needs, entry) <= members) bits |= 1 << f;
            }
            return bits;
        }

        /** KIND of a FARM in a MONTH by the first e ENTRIES (-1: all), OWING as SERVED. */
        int kindIn(int farm, int month, int e) {
            look(month, e);
            switch (decided(farm)) {
                case -1: return KIND_FARM;
                case SERVED: return KIND_SERVED;
                case TAKEN: return KIND_GONE;
                case WAVERING: return holds(members(0, 0), farm) ? KIND_MEMBER : KIND_WAVERING;
                default: return KIND_MEMBER;
            }
        }
    }

    /** ==== 3: THE TAPE, and the RULES as codes to be run on a stack; one more RULE can be tried. */
    private static final class Rules {
        /** Codes: a number from 0 on; NAMES downwards from -1; then the signs; then steps. */
        static final int PLUS = -6, MINUS = -7, MANY_TIMES = -8, PARTED = -9, STEPS = -10;

        final int[] tape = new int[TAPE];
        int tapeSize;
        final int[] codes = new int[(RULES + 1) * TAPE];
        final int[] clauses = new int[RULES + 1];
        final int[] months = new int[RULES + 1];
        final int[] words = new int[(RULES + 1) * CLAUSES];
        final int[] starts = new int[(RULES + 1) * CLAUSES];
        final int[] middles = new int[(RULES + 1) * CLAUSES];
        final int[] ends = new int[(RULES + 1) * CLAUSES];
        int size;
        /** ONES stand a sign apart on THE TAPE: it has no room for more of them. */
        private final int[] stack = new int[TAPE / 2];
        /** By which CLAUSE the last worth came, as why() tells it. */
        int by;

        void take(Rules other) {
            copy(other.tape, tape);
            copy(other.codes, codes);
            copy(other.clauses, clauses);
            copy(other.months, months);
            copy(other.words, words);
            copy(other.starts, starts);
            copy(other.middles, middles);
            copy(other.ends, ends);
            tapeSize = other.tapeSize;
            size = other.size;
        }

        void append(int sign) {
            put(tape, tapeSize, sign);
            tapeSize++;
        }

        /** What holds of a WORD in a MONTH with NAMES. */
        int worth(int word, int month, int[] names) {
            int found = -1, latest = -1;
            for (int r = 0; r < size; r++) {
                int since = at(months, r);
                if (since > month || since < latest) continue;
                for (int c = 0; c < at(clauses, r); c++) {
                    int clause = r * CLAUSES + c;
                    if (at(words, clause) != word || at(ends, clause) > at(middles, clause)
                        && run(at(middles, clause), at(ends, clause), names) > 0) continue;
                    found = clause;
                    latest = since;
                }
            }
            by = found < 0 ? NEVER : 100 * (found / CLAUSES) + found % CLAUSES;
            if (found < 0) return usual(word, at(names, UNITS));
            return Math.max(0, Math.min(99999, run(at(starts, found), at(middles, found), names)));
        }

        private static int usual(int word, int units) {
            switch (word) {
                case MILE: return 3;
                case RATE: return 2 * units;
                case FEE: return 5;
                case LATE: return 10;
                default: return 0;
            }
        }

        /** What a SUM comes to. */
        private int run(int from, int to, int[] names) {
            int top = -1;
            for (int i = from; i < to; i++) {
                int code = at(codes, i);
                if (code < STEPS) {
                    top -= STEPS - code;
                    put(stack, top, stepped(top, STEPS - code));
                } else if (code <= PLUS) {
                    top--;
                    put(stack, top, joined(code, at(stack, top), at(stack, top + 1)));
                } else {
                    top++;
                    put(stack, top, code < 0 ? at(names, -1 - code) : code);
                }
            }
            return at(stack, 0);
        }

        private static int joined(int code, int a, int b) {
            if (code == PLUS) return a + b;
            if (code == MINUS) return a - b;
            if (code == MANY_TIMES) return a * b;
            return parted(a, b);
        }

        /** Steps over the units at a place of the stack, by the SUMS behind it. */
        private int stepped(int place, int sums) {
            int rest = Math.max(0, at(stack, place)), all = 0;
            for (int i = 1; i <= sums; i++) {
                int part = i < sums ? Math.min(10, rest) : rest;
                all += part * at(stack, place + i);
                rest -= part;
            }
            return all;
        }
    }

    /** Reads THE TAPE as a RULE. Brackets may stand in one another some hundred deep: no recursion. */
    private static final class Reader {
        /** A step's bracket among the signs that wait, with its number of SUMS behind the units. */
        private static final int STEP = 256, MOST_SUMS = 4, MOST_DIGITS = 4;

        private final Rules rules;
        private final int[] waiting = new int[TAPE];
        private int depth;
        private int place;
        private int codesEnd;

        Reader(Rules rules) {
            this.rules = rules;
        }

        /** Empties THE TAPE into the RULE behind the last one (not counted yet): THE FAULT; -1: none. */
        int makeRule(int month) {
            put(rules.months, rules.size, month);
            place = 0;
            codesEnd = rules.size * TAPE;
            boolean goesOn = true;
            for (int c = 0; c < CLAUSES && goesOn; c++) {
                boolean read = clause(rules.size * CLAUSES + c);
                put(rules.clauses, rules.size, c + 1);
                if (read && place >= rules.tapeSize) return emptied(-1);
                goesOn = read && coming() == ';' && c < CLAUSES - 1;
                if (goesOn) place++;
            }
            return emptied(place);
        }

        private int emptied(int fault) {
            rules.tapeSize = 0;
            return fault;
        }

        private boolean clause(int number) {
            int word = oneOf(WORDS, 0);
            if (word < 0 || !passes("=")) return false;
            put(rules.words, number, word);
            put(rules.starts, number, codesEnd);
            if (!sum()) return false;
            put(rules.middles, number, codesEnd);
            if (coming() == ' ' && !(passes(" unless ") && sum())) return false;
            put(rules.ends, number, codesEnd);
            return true;
        }

        /** Reads on to the first byte that is no more of the SUM; false: that one is THE FAULT. */
        private boolean sum() {
            depth = 0;
            boolean due = true;
            for (int step = 0; step <= TAPE; step++) {
                int sign = coming();
                if (due) {
                    due = sign == '(' || sign == '[';
                    if (due) await(sign == '[' ? STEP : sign);
                    else if (!number(sign)) {
                        int name = oneOf(NAMES, WORDS);
                        if (name < 0) return false;
                        emit(-1 - name);
                    }
                } else if (rank(sign) > 0) {
                    unload(rank(sign));
                    await(sign);
                    due = true;
                } else {
                    unload(1);
                    if (depth == 0) return true;
                    int open = at(waiting, depth - 1);
                    if (!goesOn(open, sign)) return false;
                    due = sign == ':' || sign == ',';
                }
            }
            return false;
        }

        /** Takes a sign that may stand behind a SUM in the innermost bracket. */
        private boolean goesOn(int open, int sign) {
            boolean ends = sign == ')' && open == '(' || sign == ']' && open > STEP;
            boolean more = sign == ':' && open == STEP
                || sign == ',' && open > STEP && open < STEP + MOST_SUMS;
            if (!ends && !more) return false;
            depth--;
            if (sign == ']') emit(Rules.STEPS - (open - STEP));
            if (more) await(open + 1);
            else place++;
            return true;
        }

        private void await(int sign) {
            put(waiting, depth, sign);
            depth++;
            place++;
        }

        private void unload(int rank) {
            for (int i = depth - 1; i >= 0 && rank(at(waiting, i)) >= rank; i--) {
                emit(codeOf(at(waiting, i)));
                depth--;
            }
        }

        private void emit(int code) {
            put(rules.codes, codesEnd, code);
            codesEnd++;
        }

        private boolean number(int sign) {
            if (!within(sign, '0', '9')) return false;
            int value = sign - '0';
            place++;
            for (int i = 1; i < MOST_DIGITS && value > 0 && within(coming(), '0', '9'); i++) {
                value = 10 * value + coming() - '0';
                place++;
            }
            emit(value);
            return true;
        }

        /** Passes one of n texts, which all begin with other letters: which; -1: none. */
        private int oneOf(int n, int first) {
            for (int i = 0; i < n; i++) {
                String text = textOf(first + i);
                if (!text.isEmpty() && coming() == text.charAt(0)) return passes(text) ? i : -1;
            }
            return -1;
        }

        private boolean passes(String text) {
            for (int i = 0; i < text.length(); i++) {
                if (coming() != text.charAt(i)) return false;
                place++;
            }
            return true;
        }

        /** The byte at the place; -1: THE TAPE has no more. */
        private int coming() {
            return place < rules.tapeSize ? at(rules.tape, place) : -1;
        }

        private static int rank(int sign) {
            if (sign == '+' || sign == '-') return 1;
            return sign == '*' || sign == '/' ? 2 : 0;
        }

        private static int codeOf(int sign) {
            if (sign == '+') return Rules.PLUS;
            if (sign == '-') return Rules.MINUS;
            return sign == '*' ? Rules.MANY_TIMES : Rules.PARTED;
        }

        /** WORDS, and the NAMES behind them. */
        private static String textOf(int i) {
            switch (i) {
                case MILE: return "mile";
                case RATE: return "rate";
                case FEE: return "fee";
                case LATE: return "late";
                case SERVE: return "serve";
                case TAKE: return "take";
                case WORDS + UNITS: return "units";
                case WORDS + LOAD: return "load";
                case WORDS + KIND: return "kind";
                case WORDS + OWED: return "owed";
                case WORDS + MILES: return "miles";
                default: return "";
            }
        }
    }

    /** ==== 4: THE LINE as the CELL ahead of each one on it. */
    private static final class Line {
        final int[] up = new int[CELLS];
        /** CELLS as they came: each stands behind the one that it hangs on. */
        final int[] told = new int[CELLS];
        int size;
        int span = 3;
        int resistance = 2;
        private final int[] way = new int[CELLS];
        private final int[] fewest = new int[CELLS];

        Line() {
            Arrays.fill(up, NOWHERE);
        }

        void take(Line other) {
            copy(other.up, up);
            copy(other.told, told);
            size = other.size;
            span = other.span;
            resistance = other.resistance;
        }

        void add(int a, int b) {
            put(up, b, a);
            put(told, size, b);
            size++;
        }

        void empty() {
            Arrays.fill(up, NOWHERE);
            size = 0;
        }

        int ahead(int cell) {
            return isCell(cell) ? at(up, cell) : NOWHERE;
        }

        /** CELLS on THE LINE as bits, THE HOUSE's with them. */
        long cells(int power) {
            long bits = 1L << power;
            for (int i = 0; i < size; i++) bits |= 1L << at(told, i);
            return bits;
        }

        int costOn(Land land) {
            int all = 0;
            for (int i = 0; i < size; i++) {
                int cell = at(told, i);
                all += land.stretch(ahead(cell), cell);
            }
            return all;
        }

        /** Fills the way from a CELL to THE HOUSE: how many STRETCHES it has. */
        int climb(int cell) {
            int stretches = 0;
            put(way, 0, cell);
            for (int c = ahead(cell); c != NOWHERE && stretches < size; c = ahead(c)) {
                stretches++;
                put(way, stretches, c);
            }
            return stretches;
        }

        /** CELLS of the way from one to THE HOUSE, both with them, as bits. */
        long upward(int cell) {
            long bits = 0;
            int n = climb(cell);
            for (int i = 0; i <= n; i++) bits |= 1L << at(way, i);
            return bits;
        }

        /** CELLS of the way from one to another, both with them, as bits. */
        long between(int a, int b) {
            long other = upward(b), one = upward(a);
            int meeting = a;
            for (int i = climb(a); i >= 0; i--) {
                if ((other >> at(way, i) & 1) == 1) meeting = at(way, i);
            }
            return one ^ other | 1L << meeting;
        }

        /** The fewest POLES on the way to a CELL: neighbouring CELLS can always have one each. */
        int polesTo(int cell, Land land) {
            int n = climb(cell);
            put(fewest, 0, 1);
            for (int i = 1; i <= n; i++) {
                int top = at(land.height, at(way, i));
                int least = CELLS, between = 0;
                for (int j = i - 1; j >= 0 && i - j <= span; j--) {
                    int other = at(land.height, at(way, j));
                    if (between <= Math.max(top, other)) least = Math.min(least, at(fewest, j) + 1);
                    between = Math.max(between, other);
                }
                put(fewest, i, least);
            }
            return at(fewest, n);
        }
    }

    /** ==== 5: SWEEPS over THE LINE. */
    private static final class Volts {
        private static final int MOST_SWEEPS = 30;

        private final State state;
        final int[] volts = new int[CELLS];
        private final int[] carried = new int[CELLS];
        int sweeps;
        boolean settled;

        Volts(State state) {
            this.state = state;
        }

        void sweep() {
            Arrays.fill(volts, 1000);
            settled = false;
            sweeps = 0;
            int served = state.book.decidedBy(SERVED, state.now);
            for (int i = 0; i < MOST_SWEEPS && !settled; i++) {
                draw(served);
                settled = drop() <= 1;
                sweeps++;
            }
        }

        /** What each STRETCH carries, kept at the CELL behind it. */
        private void draw(int served) {
            Arrays.fill(carried, 0);
            for (int f = 0; f < state.land.farms; f++) {
                int cell = state.land.cellOf(f);
                int volt = at(volts, cell);
                if (volt <= 0 || !holds(served, f)) continue;
                put(carried, cell, at(carried, cell) + parted(at(state.land.loads, f) * 1000, volt));
            }
            for (int i = state.line.size - 1; i >= 0; i--) {
                int cell = at(state.line.told, i);
                int ahead = state.line.ahead(cell);
                put(carried, ahead, at(carried, ahead) + at(carried, cell));
            }
        }

        /** Sets VOLTS from THE HOUSE on: the greatest change. */
        private int drop() {
            int greatest = 0;
            for (int i = 0; i < state.line.size; i++) {
                int cell = at(state.line.told, i);
                int lost = state.line.resistance * at(carried, cell) / 10;
                int now = at(volts, state.line.ahead(cell)) - lost;
                greatest = Math.max(greatest, Math.abs(now - at(volts, cell)));
                put(volts, cell, now);
            }
            return greatest;
        }

        int lost() {
            long all = 0;
            for (int i = 0; i < state.line.size; i++) {
                long through = at(carried, at(state.line.told, i));
                all += state.line.resistance * through * through;
            }
            return (int) Math.min(MOST, all / 1000);
        }
    }

    /** ==== 6: what was READ and PAID, and THE LOAN. */
    private static final class Coins {
        final int[] reads = new int[FARMS * MONTHS];
        final int[] paid = new int[FARMS * MONTHS];
        private int lent;
        private int since;
        private int hundredths;
        /** In how many MONTHS THE LOAN is due; 0: there is none. */
        int months;
        private int sum;

        Coins() {
            Arrays.fill(reads, NEVER);
        }

        void take(Coins other) {
            copy(other.reads, reads);
            copy(other.paid, paid);
            lent = other.lent;
            since = other.since;
            hundredths = other.hundredths;
            months = other.months;
            sum = other.sum;
        }

        /** What was READ; below 0: nothing. */
        int readOf(int farm, int month) {
            int place = slot(farm, month);
            return place < 0 ? NEVER : at(reads, place);
        }

        int paidOf(int farm, int month) {
            return at(paid, slot(farm, month));
        }

        void lend(int coins, int month, int hundredthsOfIt, int n, int told) {
            lent = coins;
            since = month;
            hundredths = hundredthsOfIt;
            months = n;
            sum = told;
        }

        int dueIn(int month) {
            int due = 0, rest = lent;
            int last = Math.min(months, month - since);
            if (month - since > months) return 0;
            for (int i = 1; i <= last; i++) {
                int part = parted(rest, months - i + 1);
                due = part + rest * hundredths / 100;
                rest -= part;
            }
            return due;
        }

        /** CAN'T. */
        int firstShort() {
            long all = sum;
            for (int m = since; m <= since + months; m++) {
                for (int f = 0; f < FARMS; f++) all += paidOf(f, m);
                all -= dueIn(m);
                if (all < 0) return m;
            }
            return NEVER;
        }
    }

    /** A FARM's meter, bills and arrears, followed MONTH by MONTH, and what THE RULES say of it. */
    private static final class Account {
        private static final int FIRST_GUESS = 10;

        private final State state;
        private final int[] names = new int[NAMES];
        int units;
        int bill;
        int arrears;
        private int lastRead;
        private int lastMonth;
        private int lastUnits;
        private int monthsRead;
        private int guessed;
        private int tooMuch;

        Account(State state) {
            this.state = state;
        }

        /** Afterwards units, bill and arrears are those of the MONTH (of -1: all 0). */
        void walk(int farm, int month) {
            startMeter();
            put(names, LOAD, at(state.land.loads, farm));
            put(names, MILES, state.line.climb(state.land.cellOf(farm)));
            for (int m = 0; m <= month && m < MONTHS; m++) {
                int kind = state.book.kindIn(farm, m, -1);
                boolean served = kind == KIND_SERVED;
                units = served ? metered(state.coins.readOf(farm, m), m) : 0;
                put(names, UNITS, units);
                put(names, KIND, kind);
                put(names, OWED, arrears);
                bill = served ? state.rules.worth(RATE, m, names) + state.rules.worth(FEE, m, names) : 0;
                long open = (long) arrears + bill - state.coins.paidOf(farm, m);
                put(names, UNITS, 0);
                if (open > 0) open += open * state.rules.worth(LATE, m, names) / 100;
                arrears = (int) Math.max(-MOST, Math.min(MOST, open));
            }
        }

        private void startMeter() {
            units = 0;
            bill = 0;
            arrears = 0;
            lastRead = 0;
            lastMonth = -1;
            lastUnits = 0;
            monthsRead = 1;
            guessed = 0;
            tooMuch = 0;
        }

        /** UNITS of a MONTH in which it is served, when all those ahead have been asked for. */
        private int metered(int read, int month) {
            if (read < 0) {
                int guess = lastMonth < 0 ? FIRST_GUESS : parted(lastUnits, monthsRead);
                guessed += guess;
                return guess;
            }
            int used = read - lastRead - guessed - tooMuch;
            tooMuch = Math.max(0, -used);
            lastUnits = Math.max(0, used);
            monthsRead = lastMonth < 0 ? 1 : month - lastMonth;
            lastMonth = month;
            lastRead = read;
            guessed = 0;
            return lastUnits;
        }

        /** What holds of a WORD for a FARM (-1: none) in a MONTH. */
        int ruled(int word, int farm, int month, int told) {
            Arrays.fill(names, 0);
            if (farm >= 0) {
                walk(farm, month - 1);
                put(names, UNITS, told);
                put(names, KIND, state.book.kindIn(farm, month, -1));
                put(names, OWED, arrears);
            }
            return state.rules.worth(word, month, names);
        }
    }

    /** ==== 7: BREAKS, and THE ORDER in which they are mended. */
    private static final class Breaks {
        /** So many rows can 6 BREAKS stand in. */
        private static final int ROWS = 720;

        final int[] cells = new int[BREAKS];
        private final int[] hours = new int[BREAKS];
        int size;
        private final int[] row = new int[BREAKS];
        final int[] chosen = new int[BREAKS];
        int lost;
        private final int[] onWay = new int[FARMS];
        private final int[] dark = new int[FARMS];

        void take(Breaks other) {
            copy(other.cells, cells);
            copy(other.hours, hours);
            size = other.size;
        }

        void add(int cell, int time) {
            put(cells, size, cell);
            put(hours, size, time);
            size++;
        }

        int placeOf(int cell) {
            for (int i = 0; i < size; i++) {
                if (at(cells, i) == cell) return i;
            }
            return -1;
        }

        /** Tries all rows from the least on, and keeps the first by which least MILK is lost. */
        void choose(State state) {
            int served = state.book.decidedBy(SERVED, state.now);
            for (int f = 0; f < FARMS; f++) {
                long way = state.line.upward(state.land.cellOf(f));
                put(onWay, f, holds(served, f) ? breaksOn(way) : 0);
            }
            for (int i = 0; i < size; i++) put(row, i, i);
            lost = MOST;
            boolean more = true;
            for (int i = 0; i < ROWS && more; i++) {
                int milk = milk(state.land);
                if (milk < lost) {
                    lost = milk;
                    copy(row, chosen);
                }
                more = stepRow();
            }
        }

        /** BREAKS as bits on CELLS (bits, too). */
        private int breaksOn(long cells) {
            int bits = 0;
            for (int i = 0; i < size; i++) {
                if ((cells >> at(this.cells, i) & 1) == 1) bits |= 1 << i;
            }
            return bits;
        }

        private int milk(Land land) {
            Arrays.fill(dark, 0);
            int time = 0;
            for (int i = 0; i < size; i++) {
                int mended = at(row, i);
                time += at(hours, mended);
                for (int f = 0; f < FARMS; f++) {
                    if (holds(at(onWay, f), mended)) put(dark, f, time);
                }
            }
            int all = 0;
            for (int f = 0; f < FARMS; f++) all += at(dark, f) * at(land.loads, f);
            return all;
        }

        /** The next greater row; false: it was the greatest. */
        private boolean stepRow() {
            int i = size - 2;
            while (i >= 0 && at(row, i) > at(row, i + 1)) i--;
            if (i < 0) return false;
            int j = size - 1;
            while (j > i && at(row, j) < at(row, i)) j--;
            swap(i, j);
            for (int a = i + 1, b = size - 1; a < b; a++, b--) swap(a, b);
            return true;
        }

        private void swap(int i, int j) {
            int was = at(row, i);
            put(row, i, at(row, j));
            put(row, j, was);
        }
    }

    /** Least STRETCHES: a way from a CELL to THE LINE, a tree that joins told FARMS to THE HOUSE. */
    private static final class Ways {
        private static final int SIDES = 4;
        /** More than any STRETCHES cost, and still far from wrapping when added up. */
        private static final int FAR = 1000000;

        private final Land land;
        private final int[] costs = new int[CELLS * SIDES];
        /** For each set of the told FARMS a row of CELLS: the least COST that joins them there. */
        private final int[] least = new int[CELLS << TERMINALS];
        private final int[] ends = new int[TERMINALS];
        private final int[] path = new int[CELLS];
        private int steps;
        int cost;
        /** CELLS that come on THE LINE by the way reached last, as bits. */
        long fresh;

        Ways(Land land) {
            this.land = land;
        }

        /** COST of LEAST for FARMS told as bits; -5: there is none. */
        int leastTree(int farms) {
            int n = 0;
            for (int f = 0; f < FARMS; f++) {
                if (!holds(farms, f)) continue;
                put(ends, n, land.cellOf(f));
                n++;
            }
            measure();
            for (int set = 1; set < 1 << Math.min(n, TERMINALS); set++) {
                join(set);
                spread(set * CELLS);
            }
            int all = n == 0 ? 0 : at(least, ((1 << n) - 1) * CELLS + land.power);
            return all < FAR ? all : NEVER;
        }

        /** Joins in each CELL two trees that have the set's FARMS between them. */
        private void join(int set) {
            int row = set * CELLS;
            fillRow(row);
            for (int i = 0; i < TERMINALS; i++) {
                if (set == 1 << i) put(least, row + at(ends, i), 0);
            }
            for (int part = set - 1 & set; part > 0; part = part - 1 & set) {
                for (int c = 0; c < CELLS; c++) {
                    int both = at(least, part * CELLS + c) + at(least, (set - part) * CELLS + c);
                    if (both < at(least, row + c)) put(least, row + c, both);
                }
            }
        }

        private void fillRow(int row) {
            for (int c = 0; c < CELLS; c++) put(least, row + c, FAR);
        }

        private void measure() {
            for (int c = 0; c < CELLS; c++) {
                for (int s = 0; s < SIDES; s++) {
                    int other = neighbour(c, s);
                    int stretch = other < 0 ? NEVER : land.stretch(c, other);
                    put(costs, c * SIDES + s, stretch < 0 ? FAR : stretch);
                }
            }
        }

        /** CELLS BESIDE one, the least number first; -1: none on this side. */
        private static int neighbour(int cell, int side) {
            int step = side == 0 || side == 3 ? COLUMNS : 1;
            int other = side < 2 ? cell - step : cell + step;
            return isCell(other) && beside(cell, other) ? other : -1;
        }

        /** Lets the COSTS in a row run on from CELL to CELL till none gets less. */
        private void spread(int row) {
            boolean changed = true;
            for (int round = 0; round < CELLS && changed; round++) {
                changed = false;
                for (int c = 0; c < CELLS; c++) {
                    for (int s = 0; s < SIDES; s++) {
                        int stretch = at(costs, c * SIDES + s);
                        if (stretch >= FAR) continue;
                        int by = at(least, row + neighbour(c, s)) + stretch;
                        if (by >= at(least, row + c)) continue;
                        put(least, row + c, by);
                        changed = true;
                    }
                }
            }
        }

        /** Finds the least STRETCHES from THE LINE to a CELL: whether some lead there. */
        boolean reach(Line line, int cell) {
            long on = line.cells(land.power);
            measure();
            for (int c = 0; c < CELLS; c++) put(least, c, (on >> c & 1) == 1 ? 0 : FAR);
            spread(0);
            cost = at(least, cell);
            if (cost >= FAR) return false;
            trace(cell);
            return true;
        }

        private void trace(int cell) {
            fresh = 0;
            steps = 0;
            put(path, 0, cell);
            for (int c = cell; at(least, c) > 0 && steps < CELLS - 1; c = at(path, steps)) {
                fresh |= 1L << c;
                int to = ahead(c);
                steps++;
                put(path, steps, to);
            }
        }

        private int ahead(int cell) {
            for (int s = 0; s < SIDES; s++) {
                int stretch = at(costs, cell * SIDES + s);
                int to = neighbour(cell, s);
                if (to >= 0 && at(least, to) + stretch == at(least, cell)) return to;
            }
            return cell;
        }

        /** Lays the way that was reached last on THE LINE, from THE LINE on. */
        void layOn(Line line) {
            for (int i = steps; i > 0; i--) line.add(at(path, i), at(path, i - 1));
        }
    }
}
