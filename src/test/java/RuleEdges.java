/** ==== 3, sentence by sentence: each limit from inside and from outside, THE TAPE and the RULES empty and full. */
public final class RuleEdges {
    private static final int MILE = 0, RATE = 1, FEE = 2, LATE = 3, SERVE = 4, TAKE = 5;
    /** The least and the greatest int, as ONES can make them. */
    private static final String GREATEST = "(9999*9999*21+9999*4790+8416)", LEAST = "(0-9999*9999*21-9999*4790-8417)";

    public static void main(String[] args) {
        theTapeHas120Bytes();
        oneTo8Bytes();
        theLowestBytesTheHighestFirst();
        anEmptyTapeIsNoRule();
        clausesAre8AtMost();
        theFaultAtEachPlace();
        theFaultOfEachByte();
        numbersOf1To4Digits();
        stepsHave1To4Sums();
        stepsOf10Units();
        by0AndCutTowards0();
        allInInts();
        asManyOnesAsCanWait();
        limitedTo99999();
        holdsNotAbove0();
        rulesAre8AtMost();
        fromAMonthOn();
        ofTheGreatestMonth();
        noneHolds();
        unitsFrom0To9999();
        forNoneAll0();
        owedBehindTheMonthAhead();
        milesAlongTheLine();
        Due.end("edges of the rules");
    }

    /** What a SUM comes to as fee of FARM 0 (LOAD 7), ahead of all limits but 0 .. 99999. */
    private static void worth(String sum, int units, int want) {
        CurrentFarms x = new CurrentFarms();
        x.farm(0, 7);
        Due.due("'" + sum + "'", Due.rule(x, 0, "fee=" + sum), 0);
        Due.due(sum + " of " + units, x.force(FEE, 0, 0, units), want);
    }

    private static void fault(String text, int place) {
        CurrentFarms x = new CurrentFarms();
        Due.due("fault of '" + text + "'", Due.rule(x, 0, text), -10 - place);
        Due.due("no rule came", x.count(2), 0);
        Due.due("the tape is empty", x.count(4), 0);
    }

    /** "THE TAPE (bytes, 120 at most)" */
    private static void theTapeHas120Bytes() {
        CurrentFarms x = new CurrentFarms();
        Due.due("empty", x.count(4), 0);
        Due.feed(x, "fee=10" + "+1".repeat(57));
        Due.due("full", x.count(4), 120);
        Due.due("one byte more", x.feed('0', 1), Due.FULL);
        Due.due("eight more", x.feed(0, 8), Due.FULL);
        Due.due("it reads", x.text(0), 0);
        Due.due("its 58 ONES", x.force(FEE, -1, 0, 0), 67);
        for (int i = 1; i < 15; i++) Due.due("eight", x.feed(0, 8), 8 * i);
        Due.due("112 and 8", x.feed(0, 8), 120);
        Due.due("its fault", x.text(0), -10);
        for (int i = 0; i < 113; i++) x.feed('1', 1);
        Due.due("113 and 8", x.feed(0, 8), Due.FULL);
        Due.due("it stays", x.count(4), 113);
        Due.due("113 and 7", x.feed(0, 7), 120);
        CurrentFarms y = Due.feed(new CurrentFarms(), "fee=10" + "+1".repeat(56) + "+");
        Due.due("119", y.count(4), 119);
        Due.due("and 2", y.feed('1' << 8 | '1', 2), Due.FULL);
        Due.due("and 1", y.feed('1', 1), 120);
        Due.due("tried", y.tried(0), 1);
        Due.due("empty", y.count(4), 0);
    }

    /** "BAD: n not 1 .. 8" */
    private static void oneTo8Bytes() {
        CurrentFarms x = new CurrentFarms();
        Due.due("0", x.feed(0, 0), Due.BAD);
        Due.due("9", x.feed(0, 9), Due.BAD);
        int all = 0;
        for (int n = 1; n <= 8; n++) Due.due("n " + n, x.feed(-1, n), all += n);
        Due.due("36", x.count(4), 36);
    }

    private static void theLowestBytesTheHighestFirst() {
        CurrentFarms x = new CurrentFarms();
        for (char c : "fee=".toCharArray()) x.feed(0x3131313131313100L | c, 1);
        x.feed(0xFFFFFFFFFFFF3738L, 2);
        Due.due("bytes above do not come", x.count(4), 6);
        Due.due("it reads", x.text(0), 0);
        Due.due("7 came ahead of 8", x.force(FEE, -1, 0, 0), 78);
        x.feed(0x6665653D31323334L, 8);
        Due.due("eight bytes", x.text(0), 1);
        Due.due("in their row", x.force(FEE, -1, 0, 0), 1234);
        x.feed(0x666565L, 4);
        Due.due("a byte 0 comes, too", x.text(0), -10);
        x.feed(0x6665653D31B2L, 6);
        Due.due("a byte above 127 is no digit", x.text(0), -15);
    }

    private static void anEmptyTapeIsNoRule() {
        CurrentFarms x = new CurrentFarms();
        Due.due("text", x.text(0), -10);
        for (int what = 0; what < 3; what++) Due.due("tried", x.tried(what), -10);
        Due.due("rules", x.count(2), 0);
        Due.due("none holds", x.why(FEE, -1, 0, 0), -5);
    }

    /** "CLAUSES, 8 at most, with ; between" */
    private static void clausesAre8AtMost() {
        StringBuilder text = new StringBuilder("fee=1");
        for (int n = 1; n <= 8; n++) {
            CurrentFarms x = new CurrentFarms();
            Due.good(x, 0, text.toString());
            Due.due("the last of " + n, x.why(FEE, -1, 0, 0), n - 1);
            Due.due("its worth", x.force(FEE, -1, 0, 0), n);
            fault(text + ";", n < 8 ? text.length() + 1 : text.length());
            fault(text + ";;", n < 8 ? text.length() + 1 : text.length());
            fault(text + ",", text.length());
            text.append(";fee=").append(n + 1);
        }
        fault(text.toString(), 47);
    }

    /** "FAULT: .. (the size, if it ends too early)" */
    private static void theFaultAtEachPlace() {
        String text = "fee=12+units*(load-3)/[owed:1,kind] unless miles;late=0";
        int[] whole = {5, 6, 12, 21, 35, 48, 55};
        for (int n = 0, w = 0; n <= text.length(); n++) {
            String part = text.substring(0, n);
            if (n == whole[w]) {
                Due.due("'" + part + "'", Due.rule(new CurrentFarms(), 0, part), 0);
                w++;
            } else {
                fault(part, n);
            }
        }
    }

    /** "FAULT: the place of the first byte with which no RULE can go on" */
    private static void theFaultOfEachByte() {
        String text = "serve=[units*2:load,0,(7),9999]-kind/owed unless (miles);mile=1;rate=2;fee=3;late=4;take=5";
        Due.due("it reads", Due.rule(new CurrentFarms(), 0, text), 0);
        for (int i = 0; i < text.length(); i++) {
            char sign = new char[] {0, '?', 128, 255, 'x', '='}[i % 6];
            if (text.charAt(i) == sign) sign = '?';
            fault(text.substring(0, i) + sign + text.substring(i + 1), i);
            fault(text.substring(0, i) + '?' + text.substring(i), i);
        }
        fault(text + '?', text.length());
        fault("Fee=1", 0);
        fault("feE=1", 2);
    }

    /** "a number of 1 to 4 digits (no 0 ahead of another)" */
    private static void numbersOf1To4Digits() {
        worth("0", 0, 0);
        worth("9", 0, 9);
        worth("10", 0, 10);
        worth("100", 0, 100);
        worth("1000", 0, 1000);
        worth("9999", 0, 9999);
        worth("0+0*0", 0, 0);
        fault("fee=10000", 8);
        fault("fee=99999", 8);
        for (int d = 0; d < 10; d++) fault("fee=0" + d, 5);
        fault("fee=(00)", 6);
        fault("fee=1+01", 7);
        fault("fee=[00:1]", 6);
        fault("fee=1 unless 01", 14);
        fault("fee=.5", 4);
    }

    /** "(1 to 4 of them)" */
    private static void stepsHave1To4Sums() {
        fault("fee=[units]", 10);
        fault("fee=[units:]", 11);
        worth("[units:1]", 50, 50);
        worth("[units:1,2]", 50, 90);
        worth("[units:1,2,3]", 50, 120);
        worth("[units:1,2,3,4]", 50, 140);
        fault("fee=[units:1,2,3,4,5]", 18);
        fault("fee=[units:1,2,3,4,]", 18);
        fault("fee=[units:1,2,3,4:5]", 18);
        fault("fee=[units:1,,2]", 13);
        fault("fee=[units,1:2]", 10);
        fault("fee=[:1]", 5);
        worth("[[units:1,1,1,1]:[1:1],[1:2],[1:3],[1:4]]", 50, 140);
    }

    /** "the first 10 units at s0 each, the next 10 at s1, .., all more at the last one (of u below 0: 0)" */
    private static void stepsOf10Units() {
        int[] s = {7, 100, 3, 50};
        for (int u : new int[] {0, 1, 9, 10, 11, 19, 20, 21, 29, 30, 31, 40, 41, 99}) {
            for (int n = 1; n <= 4; n++) {
                int all = 0;
                StringBuilder text = new StringBuilder("[units:7");
                for (int i = 1; i < n; i++) text.append(',').append(s[i]);
                for (int i = 0; i < u; i++) all += s[Math.min(i / 10, n - 1)];
                worth(text + "]", u, all);
            }
        }
        worth("100+[0-1:5,6]", 0, 100);
        worth("100+[units-10:5,6]", 9, 100);
        worth("100+[units-10:5,6]", 10, 100);
        worth("100+[units-10:5,6]", 11, 105);
        worth("100+[" + LEAST + ":5]", 0, 100);
        worth("1000+[units:0-7,3]", 11, 1000 - 70 + 3);
        worth("1000+[0-5:0-7,3]", 0, 1000);
    }

    /** "(by 0: 0; cut towards 0)" */
    private static void by0AndCutTowards0() {
        worth("5/0", 0, 0);
        worth("1+5/0+1", 0, 2);
        worth("5/(1-1)", 0, 0);
        worth("0/0", 0, 0);
        worth("5/units", 0, 0);
        worth("5/units", 1, 5);
        worth("5/0*7", 0, 0);
        worth("7/2", 0, 3);
        worth("10+(0-7)/2", 0, 7);
        worth("10+7/(0-2)", 0, 7);
        worth("(0-7)/(0-2)", 0, 3);
        worth("10+(0-1)/2", 0, 10);
        worth("9/10", 0, 0);
        worth("10/10", 0, 1);
        worth("[units:5/0,2]", 11, 2);
    }

    /** "All in ints (wrapping)" */
    private static void allInInts() {
        worth(GREATEST, 0, 99999);
        worth(GREATEST + "+1", 0, 0);
        worth(LEAST, 0, 0);
        worth(LEAST + "-1", 0, 99999);
        worth(GREATEST + "-(0-1)", 0, 0);
        worth("(" + GREATEST + "+1)/9999/9999+22", 0, 1);
        worth("(" + LEAST + "-1)/9999/9999", 0, 21);
        worth(GREATEST + "*2+9", 0, 7);
        worth(LEAST + "*2+9", 0, 9);
        worth(LEAST + "/(0-1)/9999/9999+22", 0, 1);
        worth(LEAST + "*(0-1)/9999/9999+22", 0, 1);
        worth("9999*9999*43-9999*417-3117", 0, 47);
        worth("[9999*9999:9999*9999]/9999/9999+50", 0, 9999 * 9999 * (9999 * 9999) / 9999 / 9999 + 50);
        worth("[" + GREATEST + ":2]+9", 0, 7);
        worth("[" + GREATEST + ":2,0]", 0, 20);
        worth("[" + GREATEST + "+1:2]", 0, 0);
        worth("[units:" + GREATEST + "]+9", 2, 7);
    }

    /** Seven steps in one another: 43 ONES are found ahead of the first that is done. */
    private static void asManyOnesAsCanWait() {
        worth("[31:0,0,0,0+1*".repeat(7) + "7" + "]".repeat(7), 0, 7);
        worth("1+(".repeat(28) + "1" + ")".repeat(28), 0, 29);
        worth("9-(".repeat(28) + "9" + ")".repeat(28), 0, 9);
        worth("(".repeat(57) + "7" + ")".repeat(57), 0, 7);
        fault("fee=" + "[".repeat(116), 120);
        fault("fee=" + "(".repeat(115) + "1", 120);
        fault("fee=" + "1+".repeat(58), 120);
    }

    /** "what a CLAUSE comes to is limited to 0 .. 99999" */
    private static void limitedTo99999() {
        worth("0-1", 0, 0);
        worth("1-1", 0, 0);
        worth("1", 0, 1);
        worth("9999*10+8", 0, 99998);
        worth("9999*10+9", 0, 99999);
        worth("9999*10+10", 0, 99999);
        worth("9999*11", 0, 99999);
        worth("9999*11-9999*10", 0, 9999);
        worth("(0-5)+6", 0, 1);
        String[] words = {"mile", "rate", "fee", "late", "serve", "take"};
        for (int w = MILE; w <= TAKE; w++) {
            CurrentFarms x = new CurrentFarms();
            x.farm(0, 7);
            Due.good(x, 0, words[w] + "=0-load;" + words[w] + "=units*load*load unless 10-units");
            Due.due(words[w] + " below 0", x.force(w, 0, 0, 9), 0);
            Due.due(words[w] + " of 10", x.force(w, 0, 0, 10), 490);
            Due.due(words[w] + " of 2041", x.force(w, 0, 0, 2041), 99999);
            Due.due(words[w] + " of 2040", x.force(w, 0, 0, 2040), 99960);
        }
    }

    /** "A CLAUSE does not hold where its second SUM comes to more than 0" */
    private static void holdsNotAbove0() {
        unless("0", true);
        unless("1", false);
        unless("0-1", true);
        unless("1-1", true);
        unless("9999*9999", false);
        unless(GREATEST, false);
        unless(GREATEST + "+1", true);
        unless(LEAST, true);
        unless(LEAST + "-1", false);
        unless("5/0", true);
        unless("1/2", true);
        unless("[0-3:5]", true);
    }

    private static void unless(String sum, boolean holds) {
        CurrentFarms x = new CurrentFarms();
        Due.good(x, 0, "fee=8 unless " + sum);
        Due.due("unless " + sum, x.force(FEE, -1, 0, 0), holds ? 8 : 5);
        Due.due("why unless " + sum, x.why(FEE, -1, 0, 0), holds ? 0 : -5);
    }

    /** "RULES are numbered from 0 on, 8 at most" */
    private static void rulesAre8AtMost() {
        CurrentFarms x = new CurrentFarms();
        Due.due("none", x.count(2), 0);
        for (int r = 0; r < 8; r++) {
            if (r == 7) x.image();
            Due.due("rule", Due.rule(x, 0, "mile=1;mile=1;mile=1;mile=1;mile=1;mile=1;mile=1;mile=" + r), r);
            Due.due("rules", x.count(2), r + 1);
            Due.due("it holds", x.why(MILE, -1, 0, 0), 100 * r + 7);
            Due.due("its worth", x.force(MILE, -1, 0, 0), r);
        }
        Due.feed(x, "mile=9");
        Due.due("full", x.text(0), Due.FULL);
        Due.due("the tape stays", x.count(4), 6);
        Due.due("it can be tried", x.tried(0), 1);
        Due.due("and is not kept", x.why(MILE, -1, 0, 0), 707);
        Due.due("full with an empty tape", x.text(0), Due.FULL);
        x.undo();
        Due.due("room again", Due.rule(x, 0, "mile=9"), 7);
        Due.due("it holds", x.force(MILE, -1, 0, 0), 9);
        Due.due("its only clause", x.why(MILE, -1, 0, 0), 700);
    }

    /** "each from a MONTH on"; "of those from that MONTH or earlier" */
    private static void fromAMonthOn() {
        CurrentFarms x = new CurrentFarms();
        Due.feed(x, "fee=8");
        Due.due("-1", x.text(-1), Due.BAD);
        Due.due("121", x.text(121), Due.BAD);
        Due.due("month 120", x.text(120), 0);
        Due.due("month 119", x.force(FEE, -1, 119, 0), 5);
        Due.due("month 120", x.force(FEE, -1, 120, 0), 8);
        Due.good(x, 60, "fee=7");
        Due.due("month 59", x.why(FEE, -1, 59, 0), -5);
        Due.due("month 60", x.why(FEE, -1, 60, 0), 100);
        Due.due("month 119", x.why(FEE, -1, 119, 0), 100);
        Due.due("month 120", x.why(FEE, -1, 120, 0), 0);
        Due.good(x, 0, "fee=6");
        Due.due("month 0", x.why(FEE, -1, 0, 0), 200);
        Due.due("month 59", x.why(FEE, -1, 59, 0), 200);
        Due.due("month 60", x.why(FEE, -1, 60, 0), 100);
    }

    /** "the RULE of the greatest MONTH (of like ones the greatest number) .. that have a CLAUSE of it that holds" */
    private static void ofTheGreatestMonth() {
        CurrentFarms x = new CurrentFarms();
        Due.good(x, 5, "fee=1;late=1");
        Due.good(x, 4, "fee=2;take=2");
        Due.due("the greater month, not the greater number", x.why(FEE, -1, 9, 0), 0);
        Due.due("month 4 has one, too", x.why(FEE, -1, 4, 0), 100);
        Due.due("the other has none of it", x.why(TAKE, -1, 9, 0), 101);
        Due.good(x, 5, "fee=3 unless 1;late=3;late=4;late=5 unless 1");
        Due.due("of like ones the one that holds", x.why(FEE, -1, 9, 0), 0);
        Due.due("of like ones the greatest, its last that holds", x.why(LATE, -1, 9, 0), 202);
        Due.due("its worth", x.force(LATE, -1, 9, 0), 4);
        Due.good(x, 6, "late=6 unless 1");
        Due.due("none of the greatest month holds", x.why(LATE, -1, 9, 0), 202);
    }

    /** "None: mile 3, rate units times 2, fee 5, late 10, serve 0, take 0" */
    private static void noneHolds() {
        CurrentFarms x = new CurrentFarms();
        x.farm(0, 7);
        int[] due = {3, 2 * 9999, 5, 10, 0, 0};
        for (int pass = 0; pass < 2; pass++) {
            for (int w = MILE; w <= TAKE; w++) {
                Due.due("word " + w, x.force(w, 0, 120, 9999), due[w]);
                Due.due("word " + w + " of no units", x.force(w, 0, 0, 0), w == RATE ? 0 : due[w]);
                Due.due("word " + w + " for none", x.force(w, -1, 0, 9999), w == RATE ? 0 : due[w]);
                Due.due("why " + w, x.why(w, 0, 120, 9999), -5);
            }
            Due.good(x, 0, "mile=1 unless 1;rate=1 unless 1;fee=1 unless 1;late=1 unless 1;serve=1 unless 1;take=1 unless 1");
        }
    }

    /** "with units (0 .. 9999)" */
    private static void unitsFrom0To9999() {
        CurrentFarms x = new CurrentFarms();
        x.farm(0, 7);
        Due.good(x, 0, "take=units;rate=units*10");
        for (int u : new int[] {0, 1, 9998, 9999}) {
            Due.due("take of " + u, x.force(TAKE, 0, 0, u), u);
            Due.due("rate of " + u, x.force(RATE, 0, 0, u), 10 * u);
        }
        for (int u : new int[] {-1, 10000, Integer.MIN_VALUE, Integer.MAX_VALUE}) {
            Due.due("force of " + u, x.force(TAKE, 0, 0, u), Due.BAD);
            Due.due("why of " + u, x.why(TAKE, 0, 0, u), Due.BAD);
            Due.due("for none", x.force(TAKE, -1, 0, u), Due.BAD);
        }
    }

    /** "For none all 0 (units, whatever is told, too)" */
    private static void forNoneAll0() {
        CurrentFarms x = new CurrentFarms();
        x.farm(0, 7);
        x.sign(0, 2, 0, 0);
        x.month(2);
        for (String name : new String[] {"units", "load", "kind", "owed", "miles"}) {
            CurrentFarms y = new CurrentFarms();
            y.farm(1, 7);
            y.sign(0, 2, 0, 0);
            y.line(0, 1);
            y.month(2);
            Due.good(y, 0, "fee=8 unless " + name);
            Due.due("unless " + name + ", for none", y.force(FEE, -1, 1, 9999), 8);
            Due.due("unless " + name + ", for farm 0", y.force(FEE, 0, 1, 9999), 5);
        }
        Due.good(x, 0, "fee=8 unless units");
        Due.due("farm 0 of no units", x.force(FEE, 0, 1, 0), 8);
        Due.due("farm 0 of one", x.force(FEE, 0, 1, 1), 5);
    }

    /** "owed: ARREARS behind the MONTH ahead" */
    private static void owedBehindTheMonthAhead() {
        CurrentFarms x = new CurrentFarms();
        x.farm(0, 7);
        x.sign(0, 2, 0, 0);
        x.month(3);
        Due.good(x, 0, "serve=owed+1000");
        Due.due("ahead of month 0", x.force(SERVE, 0, 0, 0), 1000);
        Due.due("27 behind month 0", x.force(SERVE, 0, 1, 0), 1027);
        x.pay(0, 1, 1000);
        Due.due("not those of its own month", x.force(SERVE, 0, 1, 0), 1027);
        Due.due("below 0", x.force(SERVE, 0, 2, 0), 52);
        Due.due("units that are told do not matter for them", x.force(SERVE, 0, 1, 9999), 1027);
    }

    /** "miles: STRETCHES of the FARM's way along THE LINE to THE HOUSE (0: it is not on it)" */
    private static void milesAlongTheLine() {
        CurrentFarms x = new CurrentFarms();
        x.farm(0, 7);
        x.farm(1, 7);
        x.farm(8, 7);
        x.farm(47, 7);
        Due.good(x, 0, "take=miles");
        for (int f = 0; f < 4; f++) Due.due("no line", x.force(TAKE, f, 0, 0), 0);
        x.line(0, 1);
        x.line(1, 9);
        x.line(9, 8);
        Due.due("at the house", x.force(TAKE, 0, 0, 0), 0);
        Due.due("one", x.force(TAKE, 1, 0, 0), 1);
        Due.due("three, though it is beside the house", x.force(TAKE, 2, 0, 0), 3);
        Due.due("off the line", x.force(TAKE, 3, 0, 0), 0);
        x.clear();
        Due.due("no line any more", x.force(TAKE, 2, 0, 0), 0);
    }
}
