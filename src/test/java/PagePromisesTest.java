/** Promises 7 to 15: what can be asked of a page. The values are worked out by hand. */
final class PagePromisesTest {

    /** alone 2 2 4 (12 bits); below white h2 2 v0 (12); v0 v1 v0 (5), alone 2 3 3 (12); p v0 (5), alone 8 (8). */
    static final String THREE = "wide 8; line ..##....; line ..###...; line ........;";

    /** Line 1 is white below #.#.#.#.: p p p p v0 (17 bits), alone 8 (8 bits). */
    static final String TEETH = "wide 8; line #.#.#.#.; alone 8; alone 8;";

    public static void main(String[] args) {
        count();
        dot();
        line();
        lineWithChoose();
        run();
        mode();
        modesOfAllSizes();
        change();
        longestAndRunsOf();
        readBelow();
        Check.end("PagePromisesTest");
    }

    private static void count() {
        DotRuns x = Calls.loaded(THREE);
        int[] want = {4, 0, 0, 0, 8, 16, 8, 3, 5, 4, 1, 0, 0};
        for (int what = 0; what < want.length; what++) {
            Check.due("count " + what, x.count(what), want[what]);
        }
        Check.argument("count -1", () -> x.count(-1));
        Check.argument("count 13", () -> x.count(13));
        Check.argument("count far", () -> x.count(Integer.MIN_VALUE));
        DotRuns y = Calls.loaded("alone 16; alone 16; alone 0 16; alone 0 16; alone 15 1;");
        Check.due("lines as above, white above the line 0", y.count(12), 3);
        Check.due("changes at 0 and at the end", y.count(9), 3);
        Check.due("black", y.count(8), 33);
        Check.due("marks", y.count(10), 2);
        y.set(0, 1);
        Check.due("all are marks", y.count(10), 5);
        Check.due("edits", y.count(11), 1);
        DotRuns z = Calls.loaded(TEETH);
        Check.due("marks without choice", z.count(10), 1);
        z.set(1, 1);
        Check.due("marks with choice", z.count(10), 2);
    }

    private static void dot() {
        DotRuns x = Calls.loaded("wide 40; alone 39 1;");
        Check.due("white", x.dot(0, 0), 0);
        Check.due("white", x.dot(0, 38), 0);
        Check.due("black", x.dot(0, 39), 1);
        Check.index("beyond", () -> x.dot(0, 40));
        Check.index("below", () -> x.dot(0, -1));
        Check.index("no line", () -> x.dot(1, 0));
        Check.index("no line", () -> x.dot(-1, 0));
        Check.index("far", () -> x.dot(Integer.MAX_VALUE, Integer.MAX_VALUE));
    }

    private static void due(DotRuns x, int line, int... want) {
        for (int what = 0; what < want.length; what++) {
            Check.due("line " + line + " " + what, x.line(line, what), want[what]);
        }
    }

    private static void line() {
        DotRuns x = Calls.loaded(THREE + "loss 1 4; set 0 2;");
        due(x, 0, 1, 12, 12, 12, 3, 2, 0, 1, 1, 0, 2, 0);
        due(x, 1, 0, 12, 5, 5, 3, 3, 0, 3, 0, 4, 3, 0);
        due(x, 2, 1, 8, 5, 8, 1, 2, 1, 1, 0, 0, 0, 2);
        Check.index("no line", () -> x.line(3, 0));
        Check.index("no line ahead of no number", () -> x.line(-1, 12));
        Check.argument("no number", () -> x.line(0, 12));
        Check.argument("no number", () -> x.line(0, -1));
    }

    private static void lineWithChoose() {
        DotRuns x = Calls.loaded(TEETH);
        due(x, 0, 1, 36, 43, 36, 9, 6, 0, 3, 3, 0, 4, 0);
        due(x, 1, 0, 8, 17, 17, 1, 5, 4, 1, 0, 0, 0, 0);
        due(x, 2, 0, 8, 1, 1, 1, 1, 0, 1, 0, 0, 0, 0);
        x.set(1, 1);
        due(x, 0, 1, 36, 43, 36);
        due(x, 1, 1, 8, 17, 8, 1, 5, 4, 1, 0, 0, 0, 1);
        due(x, 2, 0, 8, 1, 1, 1, 1, 0, 1, 0, 0, 0, 1);
        DotRuns same = Calls.loaded("wide 8; alone 8; line ..##....; set 1 1;");
        due(same, 1, 0, 12, 12, 12);
    }

    private static void run() {
        DotRuns x = Calls.loaded("alone 3 4 9; alone 0 16; alone 16; alone 0 1 15;");
        int[][] want = {{3, 4, 9, -1, -1}, {0, 16, -1}, {16, -1}, {0, 1, 15, -1}};
        for (int line = 0; line < want.length; line++) {
            for (int index = 0; index < want[line].length; index++) {
                Check.due("run " + line + " " + index, x.run(line, index), want[line][index]);
            }
        }
        Check.due("far", x.run(0, Integer.MAX_VALUE), -1);
        Check.index("no line", () -> x.run(4, 0));
        Check.index("below", () -> x.run(0, -1));
    }

    private static void mode() {
        DotRuns x = Calls.loaded(THREE);
        int[][][] want = {{{2, 2, 2, 4}, {1, 0, 0, 8}}, {{1, 0, 0, 2}, {1, 1, 0, 5}, {1, 0, 0, 8}},
            {{0, 0, 0, 5}, {1, 0, 0, 8}}};
        for (int line = 0; line < want.length; line++) {
            for (int index = 0; index < want[line].length; index++) {
                for (int what = 0; what < 4; what++) {
                    Check.due("mode " + line + " " + index + " " + what, x.mode(line, index, what),
                        want[line][index][what]);
                }
            }
            Check.due("no more", x.mode(line, want[line].length, 0), -9);
            Check.due("no more", x.mode(line, Integer.MAX_VALUE, 3), -9);
        }
        Check.index("no line", () -> x.mode(3, 0, 0));
        Check.index("below, ahead of no number", () -> x.mode(0, -1, 4));
        Check.argument("no number", () -> x.mode(0, 0, 4));
        Check.argument("no number behind the modes", () -> x.mode(0, 9, -1));
    }

    /** For each distance of the ends the mode and its cost. */
    private static void modesOfAllSizes() {
        int[] costs = {7, 6, 3, 1, 3, 6, 7};
        for (int by = -3; by <= 3; by++) {
            DotRuns x = Calls.loaded("alone 8 8; alone " + (8 + by) + " " + (8 - by) + ";");
            Check.due("v " + by, x.mode(1, 0, 0), 1);
            Check.due("v " + by, x.mode(1, 0, 1), by);
            Check.due("bits of v " + by, x.line(1, 2), costs[by + 3] + 1);
        }
        DotRuns x = Calls.loaded("alone 8 8; alone 4 12; alone 12 4;");
        Check.due("-4 is an h", x.mode(1, 0, 0), 2);
        Check.due("h4 12", x.mode(1, 0, 2), 12);
        Check.due("bits of h4 12", x.line(1, 2), 15);
        Check.due("+8 is an h", x.mode(2, 0, 0), 2);
        Check.due("bits of h12 4", x.line(2, 2), 15);
        DotRuns y = Calls.loaded("wide 20; alone 20; alone 7 1 12; alone 8 7 5;");
        Check.due("h7 1 and v0", y.line(1, 2), 12);
        Check.due("alone 7 1 12", y.line(1, 1), 16);
        Check.due("v1 h7 5", y.line(2, 5), 2);
        Check.due("bits of v1 h7 5", y.line(2, 2), 14);
        DotRuns z = Calls.loaded("wide 20; alone 20; line .......#....#......#;");
        Check.due("h behind an h starts from a", z.mode(1, 1, 1), 4);
        Check.due("and tells how many are black", z.mode(1, 1, 2), 1);
        Check.due("and leads to the white dot behind them", z.mode(1, 1, 3), 13);
        DotRuns w = Calls.loaded("wide 20; line ......##.##.........; alone 20; line ......##.##.........;");
        Check.due("p p v0", w.line(1, 6), 2);
        Check.due("D is 11 behind the second", w.mode(1, 1, 3), 11);
        DotRuns end = Calls.loaded("wide 20; alone 10 10; alone 20;");
        Check.due("no D: an h with no black", end.mode(1, 0, 0), 2);
        Check.due("h20 0", end.mode(1, 0, 1), 20);
        Check.due("h20 0", end.mode(1, 0, 2), 0);
        Check.due("h20 0 leads to W", end.mode(1, 0, 3), 20);
        Check.due("h20 0 is the whole code", end.line(1, 5), 1);
        Check.due("and costs", end.line(1, 2), 15);
    }

    private static void change() {
        DotRuns x = Calls.loaded("alone 3 4 9; alone 0 16; alone 16; alone 15 1;");
        int[][] want = {{3, 7, -1, -1}, {0, -1}, {-1}, {15, -1}};
        for (int line = 0; line < want.length; line++) {
            for (int index = 0; index < want[line].length; index++) {
                Check.due("change " + line + " " + index, x.change(line, index), want[line][index]);
            }
        }
        Check.due("far", x.change(0, Integer.MAX_VALUE), -1);
        Check.index("no line", () -> x.change(4, 0));
        Check.index("below", () -> x.change(0, -1));
    }

    private static void longestAndRunsOf() {
        DotRuns x = Calls.loaded("alone 3 4 9; alone 0 4 1 4 7; alone 15 1; alone 16;");
        Check.due("longest white", x.longest(0), 16);
        Check.due("longest black", x.longest(1), 4);
        Check.due("black of 4", x.runsOf(1, 4), 3);
        Check.due("black of 3", x.runsOf(1, 3), 0);
        Check.due("black of 1", x.runsOf(1, 1), 1);
        Check.due("white of 1", x.runsOf(0, 1), 1);
        Check.due("white of 16", x.runsOf(0, 16), 1);
        Check.due("white of 40", x.runsOf(0, 40), 0);
        DotRuns y = Calls.loaded("wide 40; alone 0 40;");
        Check.due("no white", y.longest(0), 0);
        Check.due("all black", y.longest(1), 40);
        Check.due("black of 40", y.runsOf(1, 40), 1);
        Check.due("without lines", new DotRuns().longest(0), 0);
        Check.due("without lines", new DotRuns().runsOf(0, 1), 0);
        Check.argument("colour", () -> x.longest(2));
        Check.argument("colour", () -> x.longest(-1));
        Check.argument("colour", () -> x.runsOf(2, 1));
        Check.argument("colour", () -> x.runsOf(-1, 1));
        Check.argument("length", () -> x.runsOf(0, 0));
        Check.argument("length", () -> x.runsOf(0, 41));
    }

    private static void readBelow() {
        DotRuns x = Calls.loaded("wide 8; line ..##....; line ...##...; line ....##..; alone 8;");
        Check.due("below the line above", x.readBelow(1, 0), 0);
        Check.due("v1 v1 v0 below itself", x.readBelow(1, 1), 2);
        Check.due("v1 v1 v0 below ....##..", x.readBelow(1, 2), 4);
        Check.due("v1 below white goes beyond W", x.readBelow(1, -1), -1);
        Check.due("the line 0 below white", x.readBelow(0, DotRuns.NONE), 0);
        Check.due("h2 2 v0 below a line without a turn to black behind 4", x.readBelow(0, 1), 0);
        Check.due("p v0 of the line 3 below white", x.readBelow(3, -1), -1);
        Check.due("p v0 of the line 3 below the line 0", x.readBelow(3, 0), 0);
        Check.index("no line", () -> x.readBelow(4, 0));
        Check.index("no line", () -> x.readBelow(-1, 0));
        Check.index("no other", () -> x.readBelow(0, 4));
        Check.index("no other", () -> x.readBelow(0, -2));
        DotRuns y = Calls.loaded("wide 8; line ####....; line #####...; line .#......; line ##......;");
        Check.due("v-1 at a is not behind it", y.readBelow(3, 0), -1);
        DotRuns z = Calls.loaded("wide 8; line ..##....; line ......##;");
        Check.due("v0 ends ahead of W", z.readBelow(0, 1), -1);
    }
}
