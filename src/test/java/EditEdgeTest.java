/** The boundary cases that the document names of the promises 16 to 24. All values are worked out by hand. */
final class EditEdgeTest {

    public static void main(String[] args) {
        setFromTheLeastToTheMost();
        loseAlsoWhereThereIsNoLine();
        addLineFrom0ToW();
        addTheLineNumber19AndNoMore();
        paintNoDotAndAllDots();
        shiftUpToAndBeyondTheEnds();
        copyToBothEnds();
        copyUpTo20Lines();
        removeTheFirstTheLastAndTheOnlyOne();
        invertAllWhiteAndAllBlack();
        swapALineWithItself();
        nothingBehindW();
        editThatChangesNothingIsAnEdit();
        Check.end("EditEdgeTest");
    }

    private static void rows(DotRuns x, String... want) {
        Check.due("lines", x.count(7), want.length);
        for (int line = 0; line < want.length && line < x.count(7); line++) {
            Check.due("line " + line, Calls.row(x, line), want[line]);
        }
    }

    private static void losses(DotRuns x, int... want) {
        for (int line = 0; line < want.length; line++) {
            Check.due("LOSS " + line, x.lose(line, want[line]), want[line]);
        }
    }

    /** "value is out of the range of the setting". */
    private static void setFromTheLeastToTheMost() {
        int[][] settings = {{1, 8, 4}, {0, 1, 0}, {0, 1, 0}, {0, 9, 0}, {0, 99, 8}, {0, 99, 16}};
        for (int what = 0; what < 6; what++) {
            int w = what;
            int least = settings[what][0];
            int most = settings[what][1];
            DotRuns x = new DotRuns();
            Check.argument("below the least of " + what, () -> x.set(w, least - 1));
            Check.argument("above the most of " + what, () -> x.set(w, most + 1));
            Check.due("stays", x.count(what), settings[what][2]);
            Check.due("to the least", x.set(what, least), settings[what][2]);
            Check.due("to the most", x.set(what, most), least);
            Check.due("to the same", x.set(what, most), most);
            Check.due("is set", x.count(what), most);
            Check.due("three edits", x.count(11), 3);
        }
        DotRuns x = new DotRuns();
        Check.argument("setting -1", () -> x.set(-1, 1));
        Check.argument("setting 6", () -> x.set(6, 1));
    }

    /** "0 to 19 (there may be no such line)", TIMES 0 to 5. */
    private static void loseAlsoWhereThereIsNoLine() {
        DotRuns x = new DotRuns();
        Check.due("line 19", x.lose(19, 5), 0);
        Check.due("line 0", x.lose(0, 0), 0);
        Check.index("line 20", () -> x.lose(20, 0));
        Check.index("line -1", () -> x.lose(-1, 0));
        Check.argument("6 times", () -> x.lose(19, 6));
        Check.argument("-1 times", () -> x.lose(19, -1));
        Check.index("the line first", () -> x.lose(20, 6));
        Check.due("as it was", x.lose(19, 1), 5);
        for (int line = 0; line < 20; line++) {
            x.addLine(0, 0);
        }
        Check.due("when the line comes", x.line(19, 9), 1);
    }

    /** "from: 0 to W; to: from to W". */
    private static void addLineFrom0ToW() {
        for (int w : new int[] {8, 16, 40}) {
            DotRuns x = Calls.loaded("wide " + w + ";");
            Check.argument("from -1", () -> x.addLine(-1, 0));
            Check.argument("from W + 1", () -> x.addLine(w + 1, w + 1));
            Check.argument("to W + 1", () -> x.addLine(0, w + 1));
            Check.argument("to from - 1", () -> x.addLine(1, 0));
            Check.argument("to W - 1", () -> x.addLine(w, w - 1));
            Check.due("no dot at 0", x.addLine(0, 0), 0);
            Check.due("no dot at W", x.addLine(w, w), 1);
            Check.due("all dots", x.addLine(0, w), 2);
            Check.due("the last dot", x.addLine(w - 1, w), 3);
            Check.due("the first dot", x.addLine(0, 1), 4);
            rows(x, Told.times(w, "."), Told.times(w, "."), Told.times(w, "#"), Told.times(w - 1, ".") + "#",
                "#" + Told.times(w - 1, "."));
        }
    }

    /** "if there are 20 lines"; the arguments come first. */
    private static void addTheLineNumber19AndNoMore() {
        DotRuns x = new DotRuns();
        for (int line = 0; line < 20; line++) {
            Check.due("its number", x.addLine(0, line % 16), line);
        }
        Check.state("a 21st line", () -> x.addLine(0, 1));
        Check.argument("from first", () -> x.addLine(-1, 0));
        Check.argument("to first", () -> x.addLine(3, 2));
        Check.due("20 lines", x.count(7), 20);
        Check.due("one less", x.removeLine(0), 19);
        Check.due("one more", x.addLine(2, 4), 19);
        Check.state("and no more", () -> x.addLine(0, 1));
    }

    /** "from: 0 to W; to: from to W; the dots from the position from up to to - 1 are changed". */
    private static void paintNoDotAndAllDots() {
        DotRuns x = Calls.loaded("wide 8;line ..##....;");
        Check.due("no dot at 0", x.paint(0, 0, 0, 1), 0);
        Check.due("no dot at W", x.paint(0, 8, 8, 1), 0);
        Check.due("no dot that is black", x.paint(0, 2, 2, 0), 0);
        rows(x, "..##....");
        Check.due("only such as are black", x.paint(0, 2, 4, 1), 0);
        Check.due("only such as are white", x.paint(0, 4, 8, 0), 0);
        rows(x, "..##....");
        Check.due("the first dot", x.paint(0, 0, 1, 1), 1);
        Check.due("the last dot", x.paint(0, 7, 8, 1), 1);
        rows(x, "#.##...#");
        Check.due("one dot", x.paint(0, 3, 4, 0), 1);
        rows(x, "#.#....#");
        Check.due("all dots", x.paint(0, 0, 8, 1), 5);
        Check.due("all dots back", x.paint(0, 0, 8, 0), 8);
        rows(x, "........");
        Check.argument("from -1", () -> x.paint(0, -1, 0, 1));
        Check.argument("from 9", () -> x.paint(0, 9, 9, 1));
        Check.argument("to 9", () -> x.paint(0, 8, 9, 1));
        Check.argument("to from - 1", () -> x.paint(0, 4, 3, 1));
        Check.argument("colour 2", () -> x.paint(0, 0, 0, 2));
        Check.argument("colour -1", () -> x.paint(0, 0, 0, -1));
        Check.index("the line first", () -> x.paint(1, -1, 9, 2));
        Check.index("the line first", () -> x.paint(-1, 4, 3, 1));
        DotRuns w = Calls.loaded("wide 40;alone 40;");
        Check.due("40 dots", w.paint(0, 0, 40, 1), 40);
        Check.due("the last dot of 40", w.paint(0, 39, 40, 0), 1);
        rows(w, Told.times(39, "#") + ".");
    }

    private static void shifted(int width, String row, int by, String want) {
        DotRuns x = Calls.loaded("wide " + width + ";line " + row + ";");
        Check.due(row + " by " + by + ", black dots", x.shift(0, by), want.replace(".", "").length());
        rows(x, want);
        Check.due("and no other dot", x.count(8), want.replace(".", "").length());
    }

    /** "what goes beyond an end is gone, what comes in is white"; "-40 to 40". */
    private static void shiftUpToAndBeyondTheEnds() {
        String row = "#.##..##";
        shifted(8, row, 0, row);
        shifted(8, row, 1, ".#.##..#");
        shifted(8, row, -1, ".##..##.");
        shifted(8, row, 7, ".......#");
        shifted(8, row, -7, "#.......");
        for (int by : new int[] {8, 9, 39, 40, -8, -9, -39, -40}) {
            shifted(8, row, by, "........");
        }
        String all = Told.times(40, "#");
        shifted(40, all, 39, Told.times(39, ".") + "#");
        shifted(40, all, -39, "#" + Told.times(39, "."));
        shifted(40, all, 40, Told.times(40, "."));
        shifted(40, all, -40, Told.times(40, "."));
        shifted(40, all, 24, Told.times(24, ".") + Told.times(16, "#"));
        DotRuns x = Calls.loaded("wide 8;line " + row + ";");
        Check.argument("41", () -> x.shift(0, 41));
        Check.argument("-41", () -> x.shift(0, -41));
        Check.argument("64", () -> x.shift(0, 64));
        Check.index("the line first", () -> x.shift(1, 41));
        rows(x, row);
        x.shift(0, 3);
        x.shift(0, -3);
        rows(x, "#.##....");
    }

    /** "to: 0 to the number of lines"; "LOSS stays with the numbers". */
    private static void copyToBothEnds() {
        String text = "wide 8;line #.......;line ##......;loss 0 1;loss 1 2;loss 2 3;";
        String a = "#.......";
        String b = "##......";
        DotRuns x = Calls.loaded(text);
        Check.due("the first one to 0", x.copyLine(0, 0), 3);
        rows(x, a, a, b);
        losses(x, 1, 2, 3, 0);
        DotRuns y = Calls.loaded(text);
        Check.due("the last one to 0", y.copyLine(1, 0), 3);
        rows(y, b, a, b);
        DotRuns z = Calls.loaded(text);
        Check.due("the first one to the end", z.copyLine(0, 2), 3);
        rows(z, a, b, a);
        Check.due("the middle one behind itself", z.copyLine(1, 2), 4);
        rows(z, a, b, b, a);
        Check.due("the last one to its own place", z.copyLine(3, 3), 5);
        rows(z, a, b, b, a, a);
        losses(z, 1, 2, 3, 0, 0);
        Check.index("to beyond the end", () -> z.copyLine(0, 6));
        Check.index("to -1", () -> z.copyLine(0, -1));
        Check.index("no line", () -> z.copyLine(5, 0));
        Check.index("no line", () -> z.copyLine(-1, 0));
        Check.index("without lines", () -> new DotRuns().copyLine(0, 0));
    }

    /** "if there are 20 lines"; the lines and places come first. */
    private static void copyUpTo20Lines() {
        DotRuns x = Calls.loaded("wide 8;line #.......;" + Told.times(18, "alone 8;"));
        Check.due("19 lines", x.count(7), 19);
        Check.due("the 20th", x.copyLine(0, 19), 20);
        Check.due("at the end", Calls.row(x, 19), "#.......");
        Check.state("a 21st", () -> x.copyLine(0, 0));
        Check.state("a 21st at the end", () -> x.copyLine(19, 20));
        Check.index("beyond the end first", () -> x.copyLine(0, 21));
        Check.index("no line first", () -> x.copyLine(20, 0));
        Check.due("20 lines", x.count(7), 20);
        x.removeLine(5);
        Check.due("room again", x.copyLine(18, 0), 20);
        Check.due("at the beginning", Calls.row(x, 0), "#.......");
        Check.due("the last one stays the last one", Calls.row(x, 19), "#.......");
    }

    private static void removeTheFirstTheLastAndTheOnlyOne() {
        DotRuns x = Calls.loaded("wide 8;line #.......;line ##......;line ###.....;loss 0 1;loss 1 2;loss 2 3;");
        Check.due("the last one", x.removeLine(2), 2);
        rows(x, "#.......", "##......");
        Check.index("is gone", () -> x.removeLine(2));
        Check.due("the first one", x.removeLine(0), 1);
        rows(x, "##......");
        Check.due("the only one", x.removeLine(0), 0);
        Check.index("none is left", () -> x.removeLine(0));
        Check.index("-1", () -> x.removeLine(-1));
        losses(x, 1, 2, 3, 0);
        Check.due("a new one is white again", x.addLine(0, 0), 0);
        rows(x, "........");
        DotRuns full = Calls.loaded("wide 8;" + Told.times(19, "alone 8;") + "alone 0 8;");
        Check.due("the first one of 20", full.removeLine(0), 19);
        Check.due("the last one has moved up", Calls.row(full, 18), "########");
        Check.index("there is no line 19", () -> full.dot(19, 0));
    }

    private static void invertAllWhiteAndAllBlack() {
        for (int w : new int[] {8, 16, 40}) {
            DotRuns x = Calls.loaded("wide " + w + ";alone " + w + ";");
            Check.due("all black", x.invert(0), w);
            Check.due("one change", Told.changes(x, 0), "0");
            Check.due("all white", x.invert(0), 0);
            Check.due("no change", Told.changes(x, 0), "");
            Check.index("no line", () -> x.invert(1));
            Check.index("no line", () -> x.invert(-1));
        }
    }

    private static void swapALineWithItself() {
        DotRuns x = Calls.loaded("wide 8;line ##......;alone 8;alone 0 8;loss 0 1;loss 2 2;");
        Check.due("the first one with itself", x.swap(0, 0), 0);
        Check.due("the last one with itself", x.swap(2, 2), 0);
        rows(x, "##......", "........", "########");
        Check.due("the first and the last one", x.swap(0, 2), 6);
        rows(x, "########", "........", "##......");
        Check.due("all dots differ", x.swap(1, 0), 8);
        rows(x, "........", "########", "##......");
        losses(x, 1, 0, 2);
        Check.index("one", () -> x.swap(3, 0));
        Check.index("other", () -> x.swap(0, 3));
        Check.index("one", () -> x.swap(-1, 0));
        Check.index("other", () -> x.swap(0, -1));
        Check.index("without lines", () -> new DotRuns().swap(0, 0));
    }

    /** What goes beyond W never comes back, also not with another W. */
    private static void nothingBehindW() {
        DotRuns x = Calls.loaded("wide 40;" + Told.times(20, "alone 0 40;"));
        Calls.load(x, "wide 8;alone 0 8;");
        x.shift(0, 5);
        x.shift(0, -5);
        rows(x, "###.....");
        x.invert(0);
        x.shift(0, -3);
        rows(x, "#####...");
        x.addLine(0, 0);
        Check.due("8 dots", x.invert(1), 8);
        Check.due("no dot of the old page", x.count(8), 13);
    }

    /** "All calls of this section that throw no exception are edits." */
    private static void editThatChangesNothingIsAnEdit() {
        DotRuns x = Calls.loaded("wide 8;line ##......;");
        x.set(0, 4);
        x.lose(0, 0);
        x.paint(0, 0, 2, 1);
        x.paint(0, 3, 3, 1);
        x.shift(0, 0);
        x.swap(0, 0);
        Check.due("six edits", x.count(11), 6);
        for (int left = 5; left >= 0; left--) {
            Check.due("undone", x.undo(), left);
            rows(x, "##......");
        }
        Check.due("none is left", x.undo(), -1);
    }
}
