/** Promises 12 to 15: feed, text, force, why. */
public final class RulePromises {
    private static final int MILE = 0, RATE = 1, FEE = 2, LATE = 3, SERVE = 4, TAKE = 5;

    public static void main(String[] args) {
        feed();
        text();
        faults();
        sums();
        steps();
        names();
        none();
        whichClause();
        refused();
        deepBrackets();
        afterFaults();
        Due.end("rules");
    }

    private static void feed() {
        CurrentFarms x = new CurrentFarms();
        Due.due("n 0", x.feed(0, 0), Due.BAD);
        Due.due("n 9", x.feed(0, 9), Due.BAD);
        Due.due("n below 0", x.feed(0, Integer.MIN_VALUE), Due.BAD);
        Due.due("eight", x.feed(-1, 8), 8);
        Due.due("one", x.feed(Long.MIN_VALUE, 1), 9);
        for (int i = 2; i <= 14; i++) x.feed(0, 8);
        Due.due("113 and 8", x.feed(0, 8), Due.FULL);
        Due.due("bad ahead of full", x.feed(0, 9), Due.BAD);
        Due.due("113 and 7", x.feed(0, 7), 120);
        Due.due("full", x.feed(0, 1), Due.FULL);
        Due.due("tape", x.count(4), 120);
        CurrentFarms y = new CurrentFarms();
        y.feed(0x7F7F7F7F66656500L | '=', 4);
        Due.due("the lowest bytes, the highest first", y.feed(0x37, 1), 5);
        Due.due("it reads", y.text(0), 0);
        Due.due("fee=7", y.force(FEE, -1, 0, 0), 7);
    }

    private static void text() {
        CurrentFarms x = new CurrentFarms();
        Due.feed(x, "fee=1");
        Due.due("month -1", x.text(-1), Due.BAD);
        Due.due("month 121", x.text(121), Due.BAD);
        Due.due("the tape stays", x.count(4), 5);
        Due.due("month 120, which is to come", x.text(120), 0);
        Due.due("the tape is empty", x.count(4), 0);
        Due.due("an empty tape", x.text(0), -10);
        for (int i = 1; i < 8; i++) Due.due("rule", Due.rule(x, 0, "fee=" + i), i);
        Due.feed(x, "fee");
        Due.due("full ahead of a fault", x.text(0), Due.FULL);
        Due.due("bad ahead of full", x.text(121), Due.BAD);
        Due.due("the tape stays", x.count(4), 3);
        Due.due("rules", x.count(2), 8);
    }

    private static void fault(String text, int place) {
        CurrentFarms x = new CurrentFarms();
        Due.due("fault of '" + text + "'", Due.rule(x, 0, text), -10 - place);
        Due.due("no rule of '" + text + "'", x.count(2), 0);
        Due.due("no tape of '" + text + "'", x.count(4), 0);
    }

    private static void good(String text) {
        Due.due("'" + text + "'", Due.rule(new CurrentFarms(), 0, text), 0);
    }

    private static void faults() {
        for (String word : new String[] {"mile", "rate", "fee", "late", "serve", "take"}) {
            good(word + "=0");
            for (int i = 0; i < word.length(); i++) {
                fault(word.substring(0, i) + "x=0", i);
                fault(word.substring(0, i), i);
            }
            fault(word + " =0", word.length());
        }
        for (String name : new String[] {"units", "load", "kind", "owed", "miles"}) {
            good("fee=" + name);
            for (int i = 0; i < name.length(); i++) {
                fault("fee=" + name.substring(0, i) + "x", 4 + i);
                fault("fee=" + name.substring(0, i), 4 + i);
            }
            fault("fee=" + name + "s", 4 + name.length());
        }
        good("fee=9999");
        fault("fee=99990", 8);
        fault("fee=00", 5);
        fault("fee=-1", 4);
        fault("fee= 1", 4);
        fault("fee=1+", 6);
        fault("fee=1+*2", 6);
        fault("fee=()", 5);
        fault("fee=(1", 6);
        fault("fee=(1]", 6);
        fault("fee=(1:2)", 6);
        fault("fee=(1,2)", 6);
        fault("fee=(1;", 6);
        fault("fee=1)", 5);
        fault("fee=1:2", 5);
        fault("fee=1,2", 5);
        fault("fee=[1]", 6);
        fault("fee=[1,2]", 6);
        fault("fee=[1)", 6);
        fault("fee=[1:2)", 8);
        fault("fee=[1:2:3]", 8);
        fault("fee=[:1]", 5);
        fault("fee=[1:]", 7);
        good("fee=[1:2,3,4,5]");
        fault("fee=[1:2,3,4,5,6]", 14);
        fault("fee=[1:2,3,4,5", 14);
        good("fee=[[1:2]:[3:4],(5)]");
        good("fee=1 unless 2");
        fault("fee=1unless 2", 5);
        fault("fee=1  unless 2", 6);
        fault("fee=1 unless  2", 13);
        fault("fee=1 unles 2", 11);
        fault("fee=1 unless 2 unless 3", 14);
        fault("fee=1 ", 6);
        fault("fee=1 unless ", 13);
        fault("fee=(1 unless 2)", 6);
        fault("fee=1;", 6);
        fault("fee=1;;", 6);
        fault(";fee=1", 0);
        good("fee=1;fee=2;fee=3;fee=4;fee=5;fee=6;fee=7;fee=8");
        fault("fee=1;fee=2;fee=3;fee=4;fee=5;fee=6;fee=7;fee=8;", 47);
        fault("fee=1;fee=2;fee=3;fee=4;fee=5;fee=6;fee=7;fee=8;fee=9", 47);
        fault("fee=1" + (char) 233, 5);
        fault("fee=1" + (char) 0, 5);
    }

    /** What a SUM comes to as fee of farm 0 (load 7) with units. */
    private static void worth(String sum, int units, int want) {
        CurrentFarms x = new CurrentFarms();
        x.farm(0, 7);
        Due.due("'" + sum + "'", Due.rule(x, 0, "fee=" + sum), 0);
        Due.due(sum + " of " + units, x.force(FEE, 0, 0, units), want);
    }

    private static void sums() {
        worth("1+2*3", 0, 7);
        worth("(1+2)*3", 0, 9);
        worth("20-5-3", 0, 12);
        worth("20/3*3", 0, 18);
        worth("20*3/7", 0, 8);
        worth("100/7/2", 0, 7);
        worth("2*3+4*5-6/4", 0, 25);
        worth("5/0", 0, 0);
        worth("3+5/(1-1)", 0, 3);
        worth("1-9", 0, 0);
        worth("10+(1-8)/2", 0, 7);
        worth("9999*10", 0, 99990);
        worth("9999*11", 0, 99999);
        worth("9999*9999*43-9999*417-3117", 0, 47);
        worth("9999*9999*22", 0, 0);
        worth("5-(0-9999*9999*21)*0", 0, 5);
        worth("(0-9999*9999*21-9999*4790-8417)/(0-1)", 0, 0);
        worth("(0-9999*9999*21-9999*4790-8416)/(0-1)", 0, 99999);
        worth("0", 0, 0);
        worth("units+load", 31, 38);
        worth("load-units", 31, 0);
    }

    private static void steps() {
        worth("[units:3]", 25, 75);
        worth("[units:3,2]", 9, 27);
        worth("[units:3,2]", 10, 30);
        worth("[units:3,2]", 25, 60);
        worth("[units:3,2,1]", 25, 55);
        worth("[units:4,3,2,1]", 45, 105);
        worth("[units:4,3,2,1]", 30, 90);
        worth("[units:4,3,2,1]", 0, 0);
        worth("[0-5:4,3]", 0, 0);
        worth("100+[units:0-1,2]", 12, 94);
        worth("[[units:2]:1,[load:1]]", 6, 24);
        worth("1+[units:2]*3", 4, 25);
    }

    private static void names() {
        CurrentFarms x = new CurrentFarms();
        x.farm(2, 7);
        x.farm(3, 8);
        x.month(3);
        x.sign(0, 2, 1, 0);
        x.sign(1, 1, 2, 5);
        x.line(0, 1);
        x.line(1, 2);
        Due.good(x, 0, "fee=load*1000+kind*100+miles*10;serve=owed+units;late=0;rate=0");
        Due.due("ahead of its service", x.force(FEE, 0, 0, 0), 7020);
        Due.due("served (and owing)", x.force(FEE, 0, 1, 0), 7320);
        Due.due("wavering, not on the line", x.force(FEE, 1, 3, 0), 8200);
        Due.due("owed is behind the month ahead: none", x.force(SERVE, 0, 1, 0), 0);
        Due.due("owed of one month", x.force(SERVE, 0, 2, 0), 7320);
        Due.due("owed of two, and units as told", x.force(SERVE, 0, 3, 9), 14649);
        x.pay(0, 2, 5000);
        Due.due("owed, when some was paid", x.force(SERVE, 0, 3, 0), 9640);
    }

    private static void none() {
        CurrentFarms x = new CurrentFarms();
        x.farm(0, 7);
        int[] usual = {3, 20, 5, 10, 0, 0};
        for (int w = 0; w < 6; w++) {
            Due.due("usual " + w, x.force(w, 0, 0, 10), usual[w]);
            Due.due("why " + w, x.why(w, 0, 0, 10), -5);
            Due.due("usual for none " + w, x.force(w, -1, 0, 10), w == RATE ? 0 : usual[w]);
        }
        Due.good(x, 0, "take=units+load+kind+owed+miles+1");
        Due.due("for none all are 0", x.force(TAKE, -1, 0, 99), 1);
        Due.due("for a farm", x.force(TAKE, 0, 0, 99), 107);
    }

    private static void whichClause() {
        CurrentFarms x = new CurrentFarms();
        x.farm(0, 7);
        x.month(9);
        Due.good(x, 3, "fee=1;rate=8;fee=2 unless units-5;fee=3 unless units");
        Due.good(x, 5, "fee=4 unless units-20;late=9");
        Due.good(x, 5, "fee=6 unless 1;mile=2");
        Due.good(x, 1, "fee=9;serve=4");
        Due.due("ahead of all", x.why(FEE, 0, 0, 0), -5);
        Due.due("the first rule by month", x.why(FEE, 0, 1, 0), 300);
        Due.due("the last clause that holds", x.why(FEE, 0, 3, 0), 3);
        Due.due("its worth", x.force(FEE, 0, 4, 0), 3);
        Due.due("one ahead of it", x.why(FEE, 0, 4, 5), 2);
        Due.due("the first one", x.why(FEE, 0, 4, 6), 0);
        Due.due("a greater month", x.why(FEE, 0, 5, 20), 100);
        Due.due("where none of it holds, the month ahead", x.why(FEE, 0, 120, 21), 0);
        Due.due("a word of an earlier rule", x.why(SERVE, 0, 9, 0), 301);
        Due.due("a word of the last rule", x.why(MILE, 0, 9, 0), 201);
        Due.due("a word of another", x.why(LATE, 0, 9, 0), 101);
        Due.due("a word of none", x.why(TAKE, 0, 9, 0), -5);
        Due.good(x, 5, "late=8");
        Due.due("of like months the greatest number", x.why(LATE, 0, 9, 0), 400);
        Due.good(x, 5, "late=8 unless 0-1;fee=1;fee=1;fee=1;fee=1;fee=1;fee=1;late=7 unless 0");
        Due.due("unless below 0 or 0 holds", x.why(LATE, 0, 9, 0), 507);
    }

    private static void refused() {
        CurrentFarms x = new CurrentFarms();
        x.farm(0, 7);
        for (int off : Due.OFF) {
            Due.due("word", x.force(off, 0, 0, 0), Due.NONE);
            Due.due("farm", x.force(0, off, 0, 0), Due.NONE);
            Due.due("month", x.force(0, 0, off, 0), Due.BAD);
            Due.due("units", x.force(0, 0, 0, off), Due.BAD);
            Due.due("word", x.why(off, 0, 0, 0), Due.NONE);
            Due.due("farm", x.why(0, off, 0, 0), Due.NONE);
            Due.due("month", x.why(0, 0, off, 0), Due.BAD);
            Due.due("units", x.why(0, 0, 0, off), Due.BAD);
        }
        Due.due("word 6", x.force(6, -1, 121, 0), Due.NONE);
        Due.due("farm 1", x.force(0, 1, 121, 0), Due.NONE);
        Due.due("month 121", x.force(0, -1, 121, 0), Due.BAD);
        Due.due("month 120", x.force(0, -1, 120, 0), 3);
        Due.due("units 10000", x.why(0, -1, 0, 10000), Due.BAD);
        Due.due("units 9999", x.why(0, -1, 0, 9999), -5);
        Due.due("rate of 9999", x.force(RATE, 0, 0, 9999), 19998);
    }

    /** What went wrong with one tape leaves nothing behind for the next. */
    private static void afterFaults() {
        CurrentFarms x = new CurrentFarms();
        x.farm(0, 7);
        for (int i = 0; i < 40; i++) {
            Due.due("too many brackets", Due.rule(x, 0, "fee=((1+[2*(" + "1-".repeat(50)), -10 - 112);
        }
        Due.good(x, 0, "fee=1+2*(3-1)");
        Due.due("its worth", x.force(FEE, 0, 0, 0), 5);
        Due.due("a fault behind it", Due.rule(x, 0, "fee=9;fee=8;fee=7*"), -28);
        Due.due("no other rule", x.why(FEE, 0, 0, 0), 0);
        String most = "rate=1" + "+1".repeat(57);
        for (int i = 1; i < 8; i++) Due.good(x, 0, most);
        Due.due("of the last one", x.force(RATE, 0, 0, 0), 58);
        Due.due("a ninth one tried", Due.tried(x, 2, most), 0);
        Due.due("the eighth stays", x.why(RATE, 0, 0, 0), 700);
    }

    /** Brackets as deep as THE TAPE lets them be. */
    private static void deepBrackets() {
        good("fee=" + "(".repeat(57) + "1" + ")".repeat(57));
        fault("fee=" + "(".repeat(116), 120);
        fault("fee=" + "[".repeat(116), 120);
        fault("fee=" + "(".repeat(57) + "1" + ")".repeat(56) + "]", 118);
        worth("[".repeat(20) + "1" + ":2]".repeat(20), 0, 99999);
        worth("1+(".repeat(28) + "1" + ")".repeat(28), 0, 29);
        worth("1*(".repeat(28) + "9" + ")".repeat(28), 0, 9);
    }
}
