/** The boundary cases that the document names of the promises 7 to 15. All values are worked out by hand. */
final class PageEdgeTest {

    public static void main(String[] args) {
        countWithoutLines();
        countOfAFullPage();
        countOfEditsIs0To10();
        dotsAtTheEnds();
        lineOfAFullPage();
        latestMarkUpToThisLine();
        numbersBehindTheLastOne();
        numbersOfEachModeAre0IfItHasNone();
        negativeIndexAheadOfTheNumber();
        longestWithoutOne();
        longestAtBothEnds();
        runsOfJustSoManyDots();
        readBelowEachLineAndNone();
        Check.end("PageEdgeTest");
    }

    /** 20 lines of 40 dots, the most changes that there can be: #.#. and so on, 20 times. */
    private static DotRuns teeth() {
        DotRuns x = Calls.loaded("wide 40;line " + Told.times(20, "#.") + ";loss 19 5;loss 0 1;");
        for (int lines = 1; lines < 20; lines++) {
            Check.due("copyLine", x.copyLine(lines - 1, lines), lines + 1);
        }
        return x;
    }

    private static void counted(DotRuns x, int... want) {
        for (int what = 0; what < want.length; what++) {
            Check.due("count " + what, x.count(what), want[what]);
        }
        Check.argument("count -1", () -> x.count(-1));
        Check.argument("count 13", () -> x.count(13));
    }

    private static void countWithoutLines() {
        counted(new DotRuns(), 4, 0, 0, 0, 8, 16, 16, 0, 0, 0, 0, 0, 0);
        counted(Calls.loaded("wide 40;set 0 1;set 1 1;set 2 1;set 3 9;set 4 0;set 5 99;"),
            1, 1, 1, 9, 0, 99, 40, 0, 0, 0, 0, 0, 0);
    }

    private static void countOfAFullPage() {
        counted(teeth(), 4, 0, 0, 0, 8, 16, 40, 20, 400, 800, 5, 10, 19);
        counted(Calls.loaded("wide 8;" + Told.times(20, "alone 8;")), 4, 0, 0, 0, 8, 16, 8, 20, 0, 0, 5, 0, 20);
        counted(Calls.loaded("wide 40;" + Told.times(20, "alone 0 40;")), 4, 0, 0, 0, 8, 16, 40, 20, 800, 20, 5, 0, 19);
    }

    private static void countOfEditsIs0To10() {
        DotRuns x = new DotRuns();
        for (int edits = 0; edits <= 12; edits++) {
            Check.due("edits that can be undone behind " + edits, x.count(11), Math.min(edits, 10));
            x.set(4, edits);
        }
    }

    /** "0 to W - 1". */
    private static void dotsAtTheEnds() {
        DotRuns x = teeth();
        Check.due("the first dot of the first line", x.dot(0, 0), 1);
        Check.due("the last dot of the first line", x.dot(0, 39), 0);
        Check.due("the first dot of the last line", x.dot(19, 0), 1);
        Check.due("the last dot but one of the last line", x.dot(19, 38), 1);
        Check.index("behind the last dot", () -> x.dot(19, 40));
        Check.index("behind the last line", () -> x.dot(20, 0));
        Check.index("ahead of the first dot", () -> x.dot(0, -1));
        Check.index("ahead of the first line", () -> x.dot(-1, 0));
        Check.index("without lines", () -> new DotRuns().dot(0, 0));
    }

    private static void line(DotRuns x, int line, int... want) {
        for (int what = 0; what < want.length; what++) {
            Check.due("line " + line + " " + what, x.line(line, what), want[what]);
        }
        Check.argument("line -1", () -> x.line(line, -1));
        Check.argument("line 12", () -> x.line(line, 12));
    }

    /** Below white: 19 times an h (11 bits), v-2, v-1 and v0. */
    private static void lineOfAFullPage() {
        DotRuns x = teeth();
        line(x, 0, 1, 164, 219, 164, 41, 22, 0, 3, 19, 1, 20, 0);
        line(x, 19, 0, 164, 41, 41, 41, 41, 0, 41, 0, 5, 20, 16);
        line(x, 16, 1, 164, 41, 164, 41, 41, 0, 41, 0, 0, 20, 16);
        Check.index("no line, whatever is asked", () -> x.line(20, 12));
        Check.index("no line, whatever is asked", () -> x.line(-1, -1));
        Check.index("without lines", () -> new DotRuns().line(0, 0));
    }

    /** "the latest mark up to this line": this line itself, if it is one. */
    private static void latestMarkUpToThisLine() {
        DotRuns x = Calls.loaded("wide 8;set 0 3;" + Told.times(7, "alone 8;"));
        int[] want = {0, 0, 0, 3, 3, 3, 6};
        for (int line = 0; line < 7; line++) {
            Check.due("latest mark up to " + line, x.line(line, 11), want[line]);
        }
        x.set(0, 1);
        Check.due("all are marks", x.line(5, 11), 5);
        x.set(0, 8);
        Check.due("only the line 0", x.line(6, 11), 0);
        DotRuns y = Calls.loaded("wide 8;set 1 1;line #.#.....;alone 8;alone 8;");
        Check.due("a chosen mark", y.line(1, 11), 1);
        Check.due("the line behind it", y.line(2, 11), 1);
    }

    /** "NONE if there are not so many", "-9 if there are not so many". */
    private static void numbersBehindTheLastOne() {
        DotRuns x = teeth();
        Check.due("the first run", x.run(19, 0), 0);
        Check.due("the last run", x.run(19, 40), 1);
        Check.due("behind the last run", x.run(19, 41), -1);
        Check.due("far behind it", x.run(19, Integer.MAX_VALUE), -1);
        Check.due("the first change", x.change(19, 0), 0);
        Check.due("the last change", x.change(19, 39), 39);
        Check.due("behind the last change", x.change(19, 40), -1);
        Check.due("far behind it", x.change(19, Integer.MAX_VALUE), -1);
        Check.due("the last mode", x.mode(19, 40, 3), 40);
        Check.due("behind the last mode", x.mode(19, 41, 3), -9);
        Check.due("far behind it", x.mode(19, Integer.MAX_VALUE, 0), -9);
        DotRuns white = Calls.loaded("wide 8;alone 8;");
        Check.due("the one run", white.run(0, 0), 8);
        Check.due("no other one", white.run(0, 1), -1);
        Check.due("no change", white.change(0, 0), -1);
        Check.due("the one mode", white.mode(0, 0, 3), 8);
        for (int what = 0; what <= 3; what++) {
            Check.due("no other one", white.mode(0, 1, what), -9);
        }
    }

    /** "1: ... (0 for p)", "2: the second one of an h (0 for others)": p, then v-3 and v0, and an h 8 0. */
    private static void numbersOfEachModeAre0IfItHasNone() {
        DotRuns x = Calls.loaded("wide 8;line ##......;line .....###;line ########;line ........;");
        int[][][] want = {{}, {{0, 0, 0, 2}, {1, -3, 0, 5}, {1, 0, 0, 8}}, {}, {{2, 8, 0, 8}}};
        for (int line = 0; line < want.length; line++) {
            for (int index = 0; index < want[line].length; index++) {
                for (int what = 0; what <= 3; what++) {
                    Check.due("mode " + line + " " + index + " " + what, x.mode(line, index, what),
                        want[line][index][what]);
                }
            }
        }
    }

    /** The index is of the first exception of the list, what is of the second. */
    private static void negativeIndexAheadOfTheNumber() {
        DotRuns x = Calls.loaded("wide 8;alone 8;");
        Check.index("run", () -> x.run(0, -1));
        Check.index("change", () -> x.change(0, -1));
        Check.index("mode", () -> x.mode(0, -1, 0));
        Check.index("mode, ahead of what", () -> x.mode(0, -1, 4));
        Check.index("mode, ahead of what", () -> x.mode(1, 0, -1));
        Check.argument("what", () -> x.mode(0, 0, -1));
        Check.argument("what", () -> x.mode(0, 0, 4));
        Check.argument("what, also behind the last mode", () -> x.mode(0, 1, 4));
        Check.index("no line", () -> x.run(1, 0));
        Check.index("no line", () -> x.change(-1, 0));
    }

    /** "0 without one". */
    private static void longestWithoutOne() {
        for (int colour = 0; colour <= 1; colour++) {
            Check.due("without lines", new DotRuns().longest(colour), 0);
        }
        DotRuns white = Calls.loaded("wide 40;alone 40;alone 40;");
        Check.due("no black dot", white.longest(1), 0);
        Check.due("all are white", white.longest(0), 40);
        DotRuns black = Calls.loaded("wide 40;alone 0 40;");
        Check.due("no white dot", black.longest(0), 0);
        Check.due("all are black", black.longest(1), 40);
        Check.argument("colour 2", () -> black.longest(2));
        Check.argument("colour -1", () -> black.longest(-1));
    }

    private static void longestAtBothEnds() {
        String[] rows = {"####.###", "###.####", "#.####.#", ".####...", "...####."};
        for (String row : rows) {
            Check.due("black of " + row, Calls.loaded("wide 8;line " + row + ";").longest(1), 4);
            DotRuns x = Calls.loaded("wide 8;line " + row + ";");
            x.invert(0);
            Check.due("white of " + row + " inverted", x.longest(0), 4);
        }
        Check.due("not from line to line", Calls.loaded("wide 8;line ......##;line ##......;").longest(1), 2);
        Check.due("in the last line", Calls.loaded("wide 8;alone 8;alone 8;line .....#..;").longest(1), 1);
    }

    /** "just so many dots ... (as long as they can be)", "length: 1 to 40". */
    private static void runsOfJustSoManyDots() {
        DotRuns x = Calls.loaded("wide 8;line ##.##.##;line ###..#.#;line ......##;line ##......;");
        int[] black = {2, 5, 1, 0, 0, 0, 0, 0};
        int[] white = {3, 1, 0, 0, 0, 2, 0, 0};
        for (int length = 1; length <= 8; length++) {
            Check.due("black of " + length, x.runsOf(1, length), black[length - 1]);
            Check.due("white of " + length, x.runsOf(0, length), white[length - 1]);
        }
        for (int length = 9; length <= 40; length++) {
            Check.due("more than W, " + length, x.runsOf(0, length) + x.runsOf(1, length), 0);
        }
        Check.argument("0", () -> x.runsOf(1, 0));
        Check.argument("41", () -> x.runsOf(1, 41));
        Check.argument("colour 2", () -> x.runsOf(2, 1));
        Check.argument("colour -1", () -> x.runsOf(-1, 1));
        Check.due("40 black ones", Calls.loaded("wide 40;alone 0 40;alone 40;alone 0 40;").runsOf(1, 40), 2);
        Check.due("of 40 no 39", Calls.loaded("wide 40;alone 0 40;").runsOf(1, 39), 0);
        Check.due("400 of 1", teeth().runsOf(0, 1), 400);
        Check.due("400 of 1", teeth().runsOf(1, 1), 400);
        Check.due("without lines", new DotRuns().runsOf(0, 16), 0);
    }

    /** "a line, which takes the place of the line above; NONE for a white line". */
    private static void readBelowEachLineAndNone() {
        DotRuns x = teeth();
        Check.due("below the line above", x.readBelow(19, 18), 0);
        Check.due("below itself", x.readBelow(19, 19), 0);
        Check.due("v0 v0 .. below white", x.readBelow(19, DotRuns.NONE), -1);
        Check.due("the line 0 below white", x.readBelow(0, DotRuns.NONE), 0);
        Check.due("its v-2 is not behind a below another one", x.readBelow(0, 19), -1);
        Check.index("no other line", () -> x.readBelow(0, 20));
        Check.index("less than NONE", () -> x.readBelow(0, -2));
        Check.index("NONE is no line", () -> x.readBelow(DotRuns.NONE, 0));
        Check.index("no line", () -> x.readBelow(20, 0));
        DotRuns y = Calls.loaded("wide 8;line ########;line ########;line .......#;line #.......;");
        Check.due("v0 v0", Told.modes(y, 1), "v0>0 v0>8");
        Check.due("read as .......#", y.readBelow(1, 2), 7);
        Check.due("ends at 1, ahead of W", y.readBelow(1, 3), -1);
        Check.due("two modes, white is at W behind the first", y.readBelow(1, DotRuns.NONE), -1);
    }
}
