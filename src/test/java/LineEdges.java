/** ==== 4, sentence by sentence: each limit from inside and from outside, THE LINE empty and full. */
public final class LineEdges {
    private static final int SIGNED = 0, WAVERING = 1, SERVED = 2, CUT = 3, TAKEN = 4;
    private static final int WATER = 3;

    public static void main(String[] args) {
        theEmptyLine();
        theFullLine();
        eachNewOneComesFromIt();
        clearedAll();
        leastForSixAtMost();
        leastThatThereIsNone();
        enoughToEachMile();
        enoughIsCut();
        spanFrom1To5();
        polesOfASpan();
        noCellBetweenIsHigher();
        leftAreMembersOffTheLine();
        costOfTheLeastStretches();
        broughtInByAsMuch();
        membersWhoseCellComes();
        fewestSigns();
        ofSeveralWays();
        noneLeads();
        Due.end("edges of the line");
    }

    private static CurrentFarms lines(CurrentFarms x, int... cells) {
        for (int i = 1; i < cells.length; i++) x.line(cells[i - 1], cells[i]);
        return x;
    }

    /** FARMS in these CELLS, all of LOAD 5. */
    private static CurrentFarms at(int... cells) {
        CurrentFarms x = new CurrentFarms();
        for (int c : cells) x.farm(c, 5);
        return x;
    }

    /** All CELLS, row by row there and back. */
    private static int[] snake() {
        int[] cells = new int[48];
        for (int i = 0; i < 48; i++) cells[i] = i / 8 % 2 == 0 ? i : i / 8 * 8 + 7 - i % 8;
        return cells;
    }

    /** "empty at first" */
    private static void theEmptyLine() {
        CurrentFarms x = at(0, 1);
        x.sign(0, SERVED, 0, 0);
        x.sign(1, SERVED, 0, 0);
        Due.due("no stretches", x.count(5), 0);
        Due.due("enough", x.mile(0), 1);
        Due.due("no stretches", x.mile(1), 0);
        Due.due("a member at the house", x.mile(2), 1);
        Due.due("no cost", x.mile(3), 0);
        Due.due("nothing to clear", x.clear(), 0);
        Due.due("a pole in the house's own cell", x.pole(0), 1);
        Due.due("none elsewhere", x.pole(1), Due.STATE);
        Due.due("the house's volts", x.volt(0), 1000);
        Due.due("no others", x.volt(1), Due.NONE);
        Due.due("no way but the house's own", x.spite(0, 0, 0), 1);
        Due.due("off it", x.spite(0, 1, 0), Due.STATE);
        Due.due("nothing hangs on it", x.storm(0, 1), Due.STATE);
        Due.due("nothing hangs on it", x.storm(1, 1), Due.STATE);
        Due.due("left", x.left(), 2);
        Due.due("not left", x.next(0, 0), Due.STATE);
        Due.due("from the house", x.next(1, 0), 10);
        Due.good(x, 0, "mile=9999*11");
        Due.due("enough for none, whatever is asked", x.mile(0), 1);
    }

    private static void theFullLine() {
        CurrentFarms x = at(40, 0, 40);
        int[] cells = snake();
        for (int i = 1; i < 48; i++) Due.due("stretch", x.line(cells[i - 1], cells[i]), i);
        for (int i = 0; i < 40; i++) Due.due("none more", x.line(cells[i], cells[i] + 8), Due.STATE);
        Due.due("all cells", x.count(5), 47);
        Due.due("cost", x.mile(3), 470);
        int[] poles = {48, 25, 17, 13, 11};
        for (int n = 1; n <= 5; n++) {
            x.span(n);
            Due.due("47 stretches by spans of " + n, x.pole(0), poles[n - 1]);
        }
        Due.good(x, 0, "take=miles-47;mile=9999*11");
        Due.due("47 miles", x.force(5, 0, 0, 0), 0);
        Due.due("all are on the way", x.spite(0, 40, 0), 3);
        for (int f = 0; f < 3; f++) x.sign(f, SERVED, 0, 0);
        Due.due("47 times 99999 by 10", x.mile(0), 0);
        Due.due("three members", x.mile(2), 3);
        Due.due("none is left", x.left(), 0);
        Due.due("the last cell's volts: 2 times 10 by 10, 47 times", x.volt(40), 1000 - 94);
        Due.due("the first break", x.storm(1, 1), 1);
        Due.due("the last", x.storm(40, 20), 2);
        Due.due("two farms of 5 behind both", x.order(-1), 21 * 5 * 2);
        Due.due("all", x.clear(), 47);
        Due.due("none", x.count(5), 0);
        Due.due("all again", lines(x, cells).count(5), 47);
    }

    /** "each new one must come from a CELL on it, or THE HOUSE, to one that isn't" */
    private static void eachNewOneComesFromIt() {
        CurrentFarms x = new CurrentFarms();
        x.house(9);
        Due.due("from elsewhere", x.line(0, 1), Due.STATE);
        Due.due("from a cell beside the house", x.line(10, 11), Due.STATE);
        Due.due("to the house", x.line(8, 9), Due.STATE);
        for (int b : new int[] {1, 8, 10, 17}) {
            Due.due("from the house", x.line(9, b), b == 1 ? 1 : b == 8 ? 2 : b == 10 ? 3 : 4);
            Due.due("told once more", x.line(9, b), Due.STATE);
            Due.due("back", x.line(b, 9), Due.STATE);
        }
        Due.due("from its end", x.line(1, 0), 5);
        Due.due("a ring", x.line(0, 8), Due.STATE);
        Due.due("a ring", x.line(8, 0), Due.STATE);
        Due.due("from a cell with a branch", x.line(8, 16), 6);
        Due.due("a ring", x.line(17, 16), Due.STATE);
        x.land(2, 1, WATER);
        Due.due("no stretch leads", x.line(1, 2), Due.STATE);
        Due.due("no stretch leads", x.line(10, 2), Due.STATE);
        Due.due("not beside ahead of that", x.line(0, 2), Due.BAD);
        Due.due("six", x.count(5), 6);
    }

    /** "THE LINE is empty: how many STRETCHES it had (BREAKS are none then)" */
    private static void clearedAll() {
        CurrentFarms x = lines(at(7, 7), 0, 1, 2, 3, 4, 5, 6, 7);
        x.sign(0, SERVED, 0, 0);
        for (int c = 1; c <= 6; c++) x.storm(c, 20);
        Due.due("seven", x.clear(), 7);
        Due.due("no breaks", x.count(6), 0);
        Due.due("no milk is lost", x.order(-1), 0);
        Due.due("no break 0", x.order(0), Due.NONE);
        Due.due("nothing to mend", x.fix(), 0);
        for (int c = 1; c < 8; c++) Due.due("off the line", x.volt(c), Due.NONE);
        lines(x, 0, 1, 2, 3, 4, 5, 6, 7);
        Due.due("its breaks did not come back", x.order(-1), 0);
        Due.due("a new one", x.storm(1, 3), 1);
        Due.due("is the only one", x.order(-1), 15);
        Due.due("span stays", x.count(7), 3);
    }

    /** "LEAST for told FARMS (6 at most)"; "BAD: bits, more than 6" */
    private static void leastForSixAtMost() {
        CurrentFarms none = new CurrentFarms();
        Due.due("no farms", none.best(0), 0);
        Due.due("no farm 0", none.best(1), Due.BAD);
        CurrentFarms x = at(1, 2, 3, 4, 5, 6, 7, 15, 23, 31);
        int bits = 0;
        for (int f = 0; f < 6; f++) {
            bits |= 1 << f;
            Due.due("the first " + (f + 1), x.best(bits), 10 * (f + 1));
            Due.due("the last " + (f + 1), x.best(bits << 4), 50 + 10 * f);
        }
        Due.due("seven", x.best(127), Due.BAD);
        Due.due("seven others", x.best(127 << 3), Due.BAD);
        Due.due("ten", x.best(1023), Due.BAD);
        Due.due("farm 10", x.best(1024), Due.BAD);
        Due.due("farm 10 and others", x.best(1025), Due.BAD);
        Due.due("the lowest int", x.best(Integer.MIN_VALUE), Due.BAD);
        Due.due("the greatest int", x.best(Integer.MAX_VALUE), Due.BAD);
        Due.due("-1", x.best(-1), Due.BAD);
        Due.due("none told", x.best(0), 0);
        CurrentFarms six = at(0, 0, 7, 7, 7, 7);
        Due.due("six in two cells", six.best(63), 70);
        Due.due("two at the house", six.best(3), 0);
        Due.due("farm 6 is none", six.best(64), Due.BAD);
    }

    /** "-5: there is none" */
    private static void leastThatThereIsNone() {
        CurrentFarms x = at(47, 0, 46, 38);
        x.land(39, 1, WATER);
        Due.due("around", x.best(1), 120);
        x.land(1, 1, WATER);
        x.land(8, 1, WATER);
        Due.due("the house on an island", x.best(1), -5);
        Due.due("the house's own cell", x.best(2), 0);
        Due.due("both", x.best(3), -5);
        Due.due("all", x.best(15), -5);
        Due.due("none told", x.best(0), 0);
        x.land(8, 1, 2);
        Due.due("by a road", x.best(3), 112);
        Due.due("two more on the way", x.best(15), 112);
    }

    /** "ENOUGH if these MEMBERS are STRETCHES times mile .. by 10, cut, or more" */
    private static void enoughToEachMile() {
        for (int members = 0; members <= 5; members++) {
            CurrentFarms x = at(1, 2, 3, 4, 5);
            for (int f = 0; f < members; f++) x.sign(f, new int[] {SIGNED, SERVED, CUT}[f % 3], 0, 0);
            lines(x, 0, 1, 2, 3, 4, 5);
            for (int mile = 0; mile <= 10; mile++) {
                int due = members >= mile * 5 / 10 ? 1 : 0;
                x.image();
                Due.good(x, 0, "mile=" + mile);
                Due.due(members + " of 5 times " + mile + " by 10", x.mile(0), due);
                x.undo();
                Due.due("tried", Due.tried(x, 0, "mile=" + mile), due);
            }
        }
    }

    private static void enoughIsCut() {
        CurrentFarms x = at(3);
        x.sign(0, SIGNED, 0, 0);
        int[] cells = snake();
        for (int n = 1; n < 48; n++) {
            x.line(cells[n - 1], cells[n]);
            if (n >= 3) Due.due("one to " + n, x.mile(0), n * 3 / 10 <= 1 ? 1 : 0);
        }
        CurrentFarms y = lines(at(9), 0, 1, 2);
        Due.due("0.6 is none", y.mile(0), 1);
        y.line(2, 3);
        Due.due("0.9 is none", y.mile(0), 1);
        y.line(3, 4);
        Due.due("1.2 is one", y.mile(0), 0);
        y.sign(0, SIGNED, 0, 0);
        Due.due("a member off the line", y.mile(0), 0);
        y.line(1, 9);
        Due.due("1.5 is one, and it is on it", y.mile(0), 1);
        y.sign(0, WAVERING, 0, 1);
        Due.due("a waverer is none", y.mile(0), 0);
        y.sign(0, TAKEN, 0, 0);
        Due.due("one that is gone is none", y.mile(0), 0);
    }

    /** "SPAN STRETCHES apart (1 .. 5; 3 at first)" */
    private static void spanFrom1To5() {
        CurrentFarms x = new CurrentFarms();
        Due.due("at first", x.count(7), 3);
        Due.due("0", x.span(0), Due.BAD);
        Due.due("6", x.span(6), Due.BAD);
        Due.due("1", x.span(1), 3);
        Due.due("5", x.span(5), 1);
        Due.due("5 again", x.span(5), 5);
        Due.due("-1", x.span(-1), Due.BAD);
        Due.due("it is 5", x.count(7), 5);
    }

    /** "one at both ends, and between them so that no two neighbours are more than SPAN STRETCHES apart" */
    private static void polesOfASpan() {
        CurrentFarms x = lines(at(0, 1, 2, 3, 4, 5, 6, 7, 15, 23), 0, 1, 2, 3, 4, 5, 6, 7, 15, 23);
        for (int span = 1; span <= 5; span++) {
            x.span(span);
            for (int f = 0; f < 10; f++) {
                Due.due(f + " stretches, span " + span, x.pole(f), (f + span - 1) / span + 1);
            }
        }
    }

    /** "and no CELL between them is higher than both" */
    private static void noCellBetweenIsHigher() {
        int[][] heights = {{0, 0, 0, 0}, {0, 1, 0, 0}, {1, 1, 0, 0}, {0, 1, 0, 1}, {1, 2, 2, 1}, {2, 2, 2, 0}, {0, 9, 9, 9},
            {8, 9, 9, 8}, {0, 5, 5, 0}, {0, 5, 6, 0}, {0, 6, 5, 0}, {3, 2, 1, 0}, {0, 1, 2, 3}};
        int[] due = {2, 3, 2, 2, 3, 2, 2, 3, 3, 3, 3, 2, 2};
        for (int i = 0; i < heights.length; i++) {
            CurrentFarms x = lines(at(3), 0, 1, 2, 3);
            for (int c = 0; c < 4; c++) x.land(c, 0, heights[i][c]);
            Due.due("row " + i, x.pole(0), due[i]);
            x.span(1);
            Due.due("span 1 always can", x.pole(0), 4);
        }
    }

    /** "LEFT: MEMBERS whose CELL is not on THE LINE" */
    private static void leftAreMembersOffTheLine() {
        CurrentFarms none = new CurrentFarms();
        Due.due("no farms", none.left(), 0);
        CurrentFarms x = at(47, 46, 45, 44, 43, 42, 41, 40, 39, 38);
        Due.due("none signed", x.left(), 0);
        int bits = 0;
        for (int f = 0; f < 10; f++) {
            x.sign(f, SIGNED, 0, 0);
            bits |= 1 << f;
            Due.due("signed", x.left(), bits);
        }
        x.sign(9, SERVED, 0, 0);
        x.sign(8, CUT, 0, 0);
        Due.due("served, cut", x.left(), 1023);
        x.sign(7, TAKEN, 0, 0);
        x.sign(6, WAVERING, 0, 9);
        Due.due("gone, wavering", x.left(), 1023 - 128 - 64);
        x.sign(6, WAVERING, 0, 8);
        Due.due("wavering, but it counts", x.left(), 1023 - 128);
        x.house(47);
        Due.due("the house comes there", x.left(), 1023 - 128 - 1);
        x.line(47, 46);
        Due.due("the line, too", x.left(), 1023 - 128 - 3);
        x.clear();
        Due.due("no line", x.left(), 1023 - 128 - 1);
        CurrentFarms y = at(9);
        y.month(3);
        y.sign(0, SIGNED, 3, 0);
        Due.due("now", y.left(), 1);
        y.sign(0, TAKEN, 2, 0);
        Due.due("still", y.left(), 1);
    }

    private static void costOfTheLeastStretches() {
        CurrentFarms x = at(7);
        x.sign(0, SIGNED, 0, 0);
        Due.due("seven", x.next(0, 0), 70);
        lines(x, 0, 8, 16, 17, 18, 19, 20, 21);
        Due.due("from the nearest cell of the line", x.next(0, 0), 40);
        for (int c : new int[] {22, 23, 15}) x.land(c, 1, 2);
        Due.due("by the roads", x.next(0, 0), 6 + 2 + 2 + 6);
        x.land(7, 0, 9);
        Due.due("the last goes up", x.next(0, 0), 6 + 2 + 2 + 24);
        x.land(15, 0, 9);
        Due.due("or one ahead of it", x.next(0, 0), 6 + 2 + 20 + 6);
        x.line(21, 22);
        x.line(22, 23);
        x.line(23, 15);
        Due.due("beside the line", x.next(0, 0), 6);
        x.line(15, 7);
        Due.due("on the line", x.next(0, 0), Due.STATE);
    }

    /** "is no more than serve of THE RULE (for it) and 20 for each MEMBER" */
    private static void broughtInByAsMuch() {
        for (int serve = 0; serve < 30; serve++) {
            CurrentFarms x = at(3);
            x.land(3, 0, 6);
            x.sign(0, SIGNED, 0, 0);
            Due.good(x, 0, "serve=" + serve);
            Due.due("cost", x.next(0, 0), 42);
            Due.due("42 by 20 and " + serve, x.next(0, 1), serve >= 22 ? 1 : 0);
            Due.due("signs", x.next(0, 2), serve >= 22 ? 0 : -5);
            Due.due("tried", Due.tried(x, 1, "serve=" + serve), serve >= 22 ? 42 : 0);
        }
        CurrentFarms y = at(2);
        y.sign(0, SIGNED, 0, 0);
        Due.due("20 by 20", y.next(0, 1), 1);
        y.land(2, 0, 1);
        Due.due("22 by 20", y.next(0, 1), 0);
        Due.good(y, 0, "serve=2");
        Due.due("22 by 22", y.next(0, 1), 1);
        Due.good(y, 1, "serve=0");
        Due.due("a rule to come", y.next(0, 1), 1);
        y.month(1);
        Due.due("now it holds", y.next(0, 1), 0);
    }

    /** "20 for each MEMBER whose CELL comes on THE LINE by these" */
    private static void membersWhoseCellComes() {
        for (int what = SIGNED; what <= TAKEN; what++) {
            CurrentFarms x = at(4, 3, 1, 20);
            x.sign(0, SIGNED, 0, 0);
            x.sign(1, what, 0, 9);
            boolean member = what == SIGNED || what == SERVED || what == CUT;
            Due.due("another that is " + what, x.next(0, 1), member ? 1 : 0);
            Due.due("signs with it", x.next(0, 2), member ? 0 : 1);
        }
        CurrentFarms x = at(4, 0, 1, 20, 5);
        for (int f = 0; f < 5; f++) if (f != 2) x.sign(f, SIGNED, 0, 0);
        Due.due("one at the house does not come, nor one elsewhere or behind", x.next(0, 1), 0);
        x.line(0, 1);
        x.sign(2, SIGNED, 0, 0);
        Due.due("30 by 20: one on the line does not come", x.next(0, 1), 0);
        CurrentFarms y = at(4, 4);
        y.sign(0, SIGNED, 0, 0);
        Due.due("40 by 20", y.next(0, 1), 0);
        y.sign(1, SIGNED, 0, 0);
        Due.due("two in its own cell", y.next(0, 1), 1);
        y.sign(1, WAVERING, 0, 1);
        Due.due("a waverer that counts", y.next(0, 1), 1);
    }

    /** "how many FARMS more on these CELLS would have to be MEMBERS (-5: all of them are too few)" */
    private static void fewestSigns() {
        CurrentFarms x = at(7, 7, 6, 5, 4, 3, 2, 1);
        x.sign(0, SIGNED, 0, 0);
        int[] serves = {50, 49, 31, 30, 29, 10, 9, 0};
        int[] due = {0, 1, 1, 1, 2, 2, 3, 3};
        for (int i = 0; i < serves.length; i++) {
            Due.good(x, 0, "serve=" + serves[i]);
            Due.due("70 less 20 less " + serves[i], x.next(0, 2), due[i]);
            Due.due("brought in", x.next(0, 1), due[i] == 0 ? 1 : 0);
        }
        CurrentFarms y = at(7, 6, 5, 0, 8);
        y.sign(0, SIGNED, 0, 0);
        Due.due("three are too few: 70 by 60", y.next(0, 2), -5);
        Due.good(y, 0, "serve=9");
        Due.due("still", y.next(0, 2), -5);
        Due.good(y, 0, "serve=10");
        Due.due("all of them", y.next(0, 2), 2);
        y.sign(1, SERVED, 0, 0);
        Due.due("one of them is", y.next(0, 2), 1);
        y.sign(2, CUT, 0, 0);
        Due.due("all are", y.next(0, 2), 0);
    }

    /** "of several ways the one whose CELLS, from its own on, are less where they first differ" */
    private static void ofSeveralWays() {
        CurrentFarms x = at(18, 10, 2, 1, 9, 17, 8, 16);
        x.sign(0, SIGNED, 0, 0);
        int[] onIt = {1, 1, 1, 0, 0, 0, 0};
        for (int f = 1; f < 8; f++) {
            x.sign(f, SIGNED, 0, 0);
            Due.due("a member in 10, 2 or 1, 40 by 40: " + f, x.next(0, 1), onIt[f - 1]);
            x.sign(f, TAKEN, 0, 0);
        }
        CurrentFarms y = at(9, 1, 8);
        for (int f = 0; f < 3; f++) y.sign(f, SIGNED, 0, 0);
        Due.due("1 first: 20 for farm 1 with it", Due.tried(y, 1, "serve=0"), 20 + 10);
        y.house(18);
        y.sign(1, TAKEN, 0, 0);
        Due.due("10 ahead of 17", y.next(0, 0), 20);
        y.farm(10, 5);
        y.sign(3, SIGNED, 0, 0);
        y.land(9, 0, 9);
        Due.due("38 by 40", y.next(0, 1), 1);
        y.land(18, 0, 1);
        Due.due("of like cost still", y.next(0, 0), 40);
        y.land(10, 0, 9);
        y.land(17, 0, 9);
        Due.due("up at once", y.next(0, 1), 1);
    }

    /** "-5: none leads" */
    private static void noneLeads() {
        CurrentFarms x = at(7, 15);
        x.sign(0, SIGNED, 0, 0);
        x.land(6, 1, WATER);
        x.land(14, 1, WATER);
        Due.due("around", x.next(0, 0), 110);
        x.land(23, 1, WATER);
        Due.due("none leads", x.next(0, 0), -5);
        Due.due("it is not brought in", x.next(0, 1), 0);
        Due.due("whoever signs", x.next(0, 2), -5);
        Due.good(x, 0, "serve=9999*11");
        Due.due("whatever it may cost", x.next(0, 1), 0);
        Due.due("whatever it may cost", x.next(0, 2), -5);
        Due.due("tried", Due.tried(x, 1, "serve=9999*11"), 0);
        Due.due("left still", x.left(), 1);
        x.house(15);
        Due.due("the house comes to the island", x.next(0, 0), 10);
        Due.due("it is brought in", x.next(0, 1), 1);
    }
}
