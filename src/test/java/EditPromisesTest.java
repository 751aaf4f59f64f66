/** Promises 16 to 24: the edits; each refused one changes nothing, each other one can be undone. */
final class EditPromisesTest {

    public static void main(String[] args) {
        set();
        lose();
        addLine();
        paint();
        shift();
        copyLine();
        removeLine();
        invert();
        swap();
        edits();
        refused();
        Check.end("EditPromisesTest");
    }

    private static void set() {
        DotRuns x = new DotRuns();
        int[] first = {4, 0, 0, 0, 8, 16};
        int[] least = {1, 0, 0, 0, 0, 0};
        int[] most = {8, 1, 1, 9, 99, 99};
        for (int what = 0; what < 6; what++) {
            int w = what;
            Check.due("set to the most", x.set(what, most[what]), first[what]);
            Check.due("set to the least", x.set(what, least[what]), most[what]);
            Check.due("is set", x.count(what), least[what]);
            Check.argument("below the least", () -> x.set(w, least[w] - 1));
            Check.argument("above the most", () -> x.set(w, most[w] + 1));
            Check.due("stays", x.count(what), least[what]);
        }
        Check.argument("no setting", () -> x.set(6, 1));
        Check.argument("no setting", () -> x.set(-1, 1));
        Check.argument("no setting", () -> x.set(Integer.MAX_VALUE, 1));
    }

    private static void lose() {
        DotRuns x = new DotRuns();
        Check.due("lose 0", x.lose(0, 5), 0);
        Check.due("lose 19", x.lose(19, 1), 0);
        Check.due("again", x.lose(19, 0), 1);
        Check.due("again", x.lose(0, 5), 5);
        x.addLine(0, 0);
        Check.due("for the line that comes", x.line(0, 9), 5);
        Check.index("below", () -> x.lose(-1, 0));
        Check.index("beyond, ahead of the times", () -> x.lose(20, 6));
        Check.argument("times", () -> x.lose(0, 6));
        Check.argument("times", () -> x.lose(0, -1));
    }

    private static void addLine() {
        DotRuns x = new DotRuns();
        Check.due("number", x.addLine(3, 6), 0);
        Check.due("number", x.addLine(0, 16), 1);
        Check.due("number", x.addLine(16, 16), 2);
        Check.due("dots", Calls.row(x, 0), "...###..........");
        Check.due("dots", Calls.row(x, 1), "################");
        Check.due("dots", Calls.row(x, 2), "................");
        Check.argument("from", () -> x.addLine(-1, 3));
        Check.argument("from", () -> x.addLine(17, 17));
        Check.argument("to below from", () -> x.addLine(5, 4));
        Check.argument("to", () -> x.addLine(0, 17));
        for (int line = 3; line < 20; line++) {
            Check.due("number", x.addLine(0, 1), line);
        }
        Check.state("full", () -> x.addLine(0, 1));
        Check.argument("full, but from first", () -> x.addLine(5, 4));
        Check.due("lines", x.count(7), 20);
        DotRuns w = Calls.loaded("wide 40;");
        w.addLine(0, 40);
        Check.due("40 dots", w.count(8), 40);
        Check.argument("W", () -> w.addLine(0, 41));
    }

    private static void paint() {
        DotRuns x = Calls.loaded("wide 8; line ..##..#.;");
        Check.due("black", x.paint(0, 1, 5, 1), 2);
        Check.due("dots", Calls.row(x, 0), ".####.#.");
        Check.due("white", x.paint(0, 0, 3, 0), 2);
        Check.due("dots", Calls.row(x, 0), "...##.#.");
        Check.due("nothing", x.paint(0, 8, 8, 1), 0);
        Check.due("all", x.paint(0, 0, 8, 1), 5);
        Check.due("dots", Calls.row(x, 0), "########");
        Check.index("no line, ahead of all", () -> x.paint(1, 9, 0, 2));
        Check.index("no line", () -> x.paint(-1, 0, 1, 1));
        Check.argument("from", () -> x.paint(0, -1, 1, 1));
        Check.argument("from", () -> x.paint(0, 9, 9, 1));
        Check.argument("to", () -> x.paint(0, 0, 9, 1));
        Check.argument("to below from", () -> x.paint(0, 3, 2, 1));
        Check.argument("colour", () -> x.paint(0, 0, 1, 2));
        Check.argument("colour", () -> x.paint(0, 0, 1, -1));
        Check.due("stays", Calls.row(x, 0), "########");
    }

    private static void shift() {
        DotRuns x = Calls.loaded("wide 8; line #.##..##;");
        Check.due("further", x.shift(0, 1), 4);
        Check.due("dots", Calls.row(x, 0), ".#.##..#");
        Check.due("back", x.shift(0, -2), 3);
        Check.due("dots", Calls.row(x, 0), ".##..#..");
        Check.due("not at all", x.shift(0, 0), 3);
        Check.due("by W", x.shift(0, 8), 0);
        x.invert(0);
        Check.due("by -W", x.shift(0, -8), 0);
        x.invert(0);
        Check.due("by 40", x.shift(0, 40), 0);
        x.invert(0);
        Check.due("by -40", x.shift(0, -40), 0);
        DotRuns w = Calls.loaded("wide 40; alone 0 40;");
        Check.due("by 39", w.shift(0, 39), 1);
        Check.due("the last dot", w.dot(0, 39), 1);
        Check.due("by -39", w.shift(0, -39), 1);
        Check.due("the first dot", w.dot(0, 0), 1);
        Check.argument("by", () -> x.shift(0, 41));
        Check.argument("by", () -> x.shift(0, -41));
        Check.argument("by", () -> x.shift(0, Integer.MIN_VALUE));
        Check.index("no line, ahead of by", () -> x.shift(1, 41));
        Check.index("no line", () -> x.shift(-1, 1));
    }

    private static void copyLine() {
        DotRuns x = Calls.loaded("wide 8; line #.......; line ##......; loss 0 3; loss 1 2;");
        Check.due("to the end", x.copyLine(0, 2), 3);
        Check.due("to the beginning", x.copyLine(1, 0), 4);
        String[] want = {"##......", "#.......", "##......", "#......."};
        int[] losses = {3, 2, 0, 0};
        for (int line = 0; line < 4; line++) {
            Check.due("line " + line, Calls.row(x, line), want[line]);
            Check.due("LOSS stays with the numbers", x.line(line, 9), losses[line]);
        }
        Check.due("to itself", x.copyLine(3, 3), 5);
        Check.due("its dots", Calls.row(x, 4), "#.......");
        x.paint(4, 0, 8, 1);
        Check.due("a copy of its own", Calls.row(x, 3), "#.......");
        Check.index("no line", () -> x.copyLine(5, 0));
        Check.index("no line", () -> x.copyLine(-1, 0));
        Check.index("no place", () -> x.copyLine(0, 6));
        Check.index("no place", () -> x.copyLine(0, -1));
        while (x.count(7) < 20) {
            x.copyLine(0, x.count(7));
        }
        Check.state("full", () -> x.copyLine(0, 0));
        Check.index("full, but place first", () -> x.copyLine(0, 21));
        Check.state("full at the end", () -> x.copyLine(19, 20));
    }

    private static void removeLine() {
        DotRuns x = Calls.loaded("wide 8; line #.......; line ##......; line ###.....; loss 0 3; loss 2 2;");
        Check.due("the middle one", x.removeLine(1), 2);
        Check.due("moves up", Calls.row(x, 1), "###.....");
        Check.due("LOSS stays", x.line(0, 9), 3);
        Check.due("LOSS stays", x.line(1, 9), 0);
        Check.due("LOSS of no line stays", x.lose(2, 2), 2);
        Check.index("gone", () -> x.removeLine(2));
        Check.index("below", () -> x.removeLine(-1));
        Check.due("the first one", x.removeLine(0), 1);
        Check.due("moves up", Calls.row(x, 0), "###.....");
        Check.due("the last one", x.removeLine(0), 0);
        Check.index("no lines", () -> x.removeLine(0));
        DotRuns full = new DotRuns();
        for (int line = 0; line < 20; line++) {
            full.addLine(0, line % 17);
        }
        Check.due("one of twenty", full.removeLine(4), 19);
        Check.due("the last one", full.line(18, 10), 2);
        Check.due("one more can come", full.addLine(1, 2), 19);
    }

    private static void invert() {
        DotRuns x = Calls.loaded("wide 9; line ..##..#..;");
        Check.due("inverted", x.invert(0), 6);
        Check.due("dots", Calls.row(x, 0), "##..##.##");
        Check.due("back", x.invert(0), 3);
        DotRuns w = Calls.loaded("wide 40; alone 40;");
        Check.due("40 dots", w.invert(0), 40);
        Check.due("and no dot more", w.count(9), 1);
        Check.index("no line", () -> x.invert(1));
        Check.index("no line", () -> x.invert(-1));
    }

    private static void swap() {
        DotRuns x = Calls.loaded("wide 8; line ##......; line .###....; line ........; loss 0 1; loss 2 4;");
        Check.due("differ", x.swap(0, 1), 3);
        Check.due("dots", Calls.row(x, 0), ".###....");
        Check.due("dots", Calls.row(x, 1), "##......");
        Check.due("with itself", x.swap(2, 2), 0);
        Check.due("differ", x.swap(2, 0), 3);
        Check.due("dots", Calls.row(x, 2), ".###....");
        Check.due("LOSS stays", x.line(0, 9), 1);
        Check.due("LOSS stays", x.line(2, 9), 4);
        Check.index("no line", () -> x.swap(3, 0));
        Check.index("no line", () -> x.swap(0, 3));
        Check.index("no line", () -> x.swap(-1, 0));
        Check.index("no line", () -> x.swap(0, -1));
    }

    /** Each edit counts, also one that leaves all as it was, and is undone as a whole. */
    private static void edits() {
        String text = "wide 8; line ##......; line .###....; loss 0 1;";
        for (int kind = 0; kind < 14; kind++) {
            DotRuns x = Calls.loaded(text);
            String before = Calls.all(x);
            edit(x, kind);
            Check.due("edit " + kind + " can be undone", x.count(11), 1);
            Check.due("undo of edit " + kind, x.undo(), 0);
            Check.due("as ahead of edit " + kind, Calls.all(x), before);
        }
    }

    private static void edit(DotRuns x, int kind) {
        switch (kind) {
            case 0: x.set(0, 1); break;
            case 1: x.set(0, 4); break;
            case 2: x.lose(1, 2); break;
            case 3: x.lose(0, 1); break;
            case 4: x.addLine(0, 1); break;
            case 5: x.paint(0, 0, 8, 1); break;
            case 6: x.paint(0, 3, 3, 1); break;
            case 7: x.shift(1, 1); break;
            case 8: x.shift(1, 0); break;
            case 9: x.copyLine(0, 2); break;
            case 10: x.removeLine(0); break;
            case 11: x.invert(1); break;
            case 12: x.swap(0, 1); break;
            default: x.swap(0, 0); break;
        }
    }

    private static void refused() {
        DotRuns x = Calls.loaded("wide 8; line ##......; loss 0 1;");
        x.shift(0, 1);
        String before = Calls.all(x);
        Check.argument("set", () -> x.set(0, 9));
        Check.index("lose", () -> x.lose(20, 1));
        Check.argument("lose", () -> x.lose(0, 6));
        Check.argument("addLine", () -> x.addLine(3, 2));
        Check.argument("paint", () -> x.paint(0, 0, 8, 2));
        Check.argument("shift", () -> x.shift(0, 41));
        Check.index("copyLine", () -> x.copyLine(0, 2));
        Check.index("removeLine", () -> x.removeLine(1));
        Check.index("invert", () -> x.invert(1));
        Check.index("swap", () -> x.swap(0, 1));
        Check.due("nothing has changed", Calls.all(x), before);
        Check.due("and one edit can be undone", x.undo(), 0);
        Check.due("the shift", Calls.row(x, 0), "##......");
    }
}
