/** Promises 34 to 39: output, undo and saved states. */
final class OutputPromisesTest {

    public static void main(String[] args) {
        write();
        longCodes();
        show();
        output();
        undo();
        undoTen();
        saveAndRestore();
        Check.end("OutputPromisesTest");
    }

    private static void written(DotRuns x, int line, String want) {
        Check.due("bytes of " + want, x.write(line), want.length());
        Check.due("write", Calls.output(x), want);
    }

    private static void shown(DotRuns x, int line, String want) {
        Check.due("bytes of " + want, x.show(line), want.length());
        Check.due("show", Calls.output(x), want);
    }

    private static void write() {
        DotRuns x = Calls.loaded("wide 20; alone 0 4 1 15; alone 10 10; alone 7 13; alone 4 16; alone 20; alone 20;"
            + "line ......##.##.........; line .......##..#........; set 0 8;");
        written(x, 0, "alone 0 4 1 15");
        written(x, 1, "above p h6 10");
        written(x, 2, "above v-3 v0");
        written(x, 3, "above v-3 v0");
        written(x, 4, "above h20 0");
        written(x, 5, "above v0");
        written(x, 6, "above h6 2 h1 2 v0");
        written(x, 7, "above v1 v1 h2 1 v0");
        x.set(0, 2);
        written(x, 4, "alone 20");
        x.set(0, 8);
        x.set(1, 1);
        written(x, 4, "alone 20");
        Check.index("no line", () -> x.write(8));
        Check.index("no line", () -> x.write(-1));
        Check.due("the output stays", Calls.output(x), "alone 20");
    }

    /** The longest codes of lines of 40 dots. */
    private static void longCodes() {
        DotRuns x = Calls.loaded("wide 40; alone 40; line .#.#.#.#.#.#.#.#.#.#.#.#.#.#.#.#.#.#.#.#;"
            + "line #.#.#.#.#.#.#.#.#.#.#.#.#.#.#.#.#.#.#.#.; set 0 8;");
        StringBuilder teeth = new StringBuilder("above");
        for (int i = 0; i < 18; i++) {
            teeth.append(" h1 1");
        }
        written(x, 1, teeth + " v-3 v-2 v-1 v0");
        StringBuilder most = new StringBuilder("above");
        for (int i = 0; i < 40; i++) {
            most.append(" v-1");
        }
        Check.due("41 modes", x.line(2, 7), 41);
        written(x, 2, most + " v0");
        StringBuilder alone = new StringBuilder("alone 0");
        for (int i = 0; i < 40; i++) {
            alone.append(" 1");
        }
        x.set(0, 1);
        written(x, 2, alone.toString());
    }

    private static void show() {
        DotRuns x = Calls.loaded("wide 8; line ..##....; line ...##...; line ....##..; loss 1 1;");
        shown(x, 0, "..##....");
        shown(x, 1, "..##....1");
        shown(x, 2, "...##...3");
        x.set(2, 1);
        shown(x, 1, "........1");
        shown(x, 2, "........2");
        x.set(3, 1);
        shown(x, 1, "...##...");
        Check.index("no line", () -> x.show(3));
        Check.index("no line", () -> x.show(-1));
        Check.due("the output stays", Calls.output(x), "...##...");
        DotRuns w = Calls.loaded("wide 40; alone 0 40; loss 0 1;");
        Check.due("40 dots and a state", w.show(0), 41);
    }

    private static void output() {
        DotRuns x = Calls.loaded("wide 8; line ..##....;");
        Check.due("nothing written", x.output(0), -1);
        x.write(0);
        Check.due("a", x.output(0), 'a');
        Check.due("4", x.output(10), '4');
        Check.due("no byte", x.output(11), -1);
        Check.due("no byte", x.output(-1), -1);
        Check.due("no byte", x.output(Integer.MIN_VALUE), -1);
        Check.due("no byte", x.output(Integer.MAX_VALUE), -1);
        x.show(0);
        Check.due("replaced", x.output(0), '.');
        Check.due("a shorter one", x.output(8), -1);
        x.load();
        x.undo();
        Check.due("stays", Calls.output(x), "..##....");
    }

    private static void undo() {
        DotRuns x = Calls.loaded("wide 8; line ..##....;");
        Check.due("nothing to undo", x.undo(), -1);
        x.set(0, 2);
        x.lose(5, 3);
        x.addLine(0, 8);
        x.removeLine(0);
        Check.due("left", x.undo(), 3);
        Check.due("dots", Calls.row(x, 0), "..##....");
        Check.due("left", x.undo(), 2);
        Check.due("lines", x.count(7), 1);
        x.invert(0);
        Check.due("an edit behind", x.count(11), 3);
        Check.due("left", x.undo(), 2);
        Check.due("left", x.undo(), 1);
        Check.due("loss", x.lose(5, 0), 0);
        Check.due("left", x.undo(), 1);
        Check.due("left", x.undo(), 0);
        Check.due("set", x.count(0), 4);
        Check.due("no more", x.undo(), -1);
    }

    private static void undoTen() {
        DotRuns x = new DotRuns();
        for (int i = 0; i < 14; i++) {
            Check.due("edits", x.count(11), Math.min(i, 10));
            x.set(4, i + 1);
        }
        for (int i = 9; i >= 0; i--) {
            Check.due("left", x.undo(), i);
            Check.due("as ahead", x.count(4), i + 4);
        }
        Check.due("the first four cannot", x.undo(), -1);
        Check.due("stays", x.count(4), 4);
        for (int i = 0; i < 7; i++) {
            x.set(5, i);
        }
        for (int i = 0; i < 3; i++) {
            x.undo();
        }
        for (int i = 0; i < 8; i++) {
            x.set(5, 50 + i);
        }
        Check.due("ten again", x.count(11), 10);
        for (int i = 0; i < 10; i++) {
            x.undo();
        }
        Check.due("up to the third", x.count(5), 1);
        Check.due("no more", x.undo(), -1);
    }

    private static int save(DotRuns x, int slot) {
        x.save(slot);
        return 0;
    }

    private static int restore(DotRuns x, int slot) {
        x.restore(slot);
        return 0;
    }

    private static void saveAndRestore() {
        DotRuns x = Calls.loaded("wide 8; line ..##....; loss 19 3; set 1 1;");
        x.shift(0, 1);
        String first = Calls.all(x);
        x.save(0);
        Check.due("saving is no edit", x.count(11), 1);
        Check.argument("slot", () -> save(x, 2));
        Check.argument("slot", () -> save(x, -1));
        Check.argument("slot", () -> restore(x, 2));
        Check.argument("slot", () -> restore(x, -1));
        Check.state("nothing there", () -> restore(x, 1));
        Check.due("nothing changes", Calls.all(x), first);
        x.removeLine(0);
        x.lose(19, 0);
        x.set(1, 0);
        x.save(1);
        Check.due("an empty page loaded", Calls.load(x, "wide 30; alone 30;"), 1);
        x.restore(0);
        Check.due("no edit can be undone", x.count(11), 0);
        Check.due("no edit can be undone", x.undo(), -1);
        Check.due("dots", Calls.row(x, 0), "...##...");
        Check.due("choose", x.count(1), 1);
        Check.due("loss", x.lose(19, 1), 3);
        x.invert(0);
        x.restore(0);
        Check.due("stays saved as it was", Calls.row(x, 0), "...##...");
        Check.due("loss again", x.lose(19, 1), 3);
        x.restore(1);
        Check.due("the other slot", x.count(7), 0);
        Check.due("its loss", x.lose(19, 1), 0);
        x.addLine(0, 1);
        x.save(1);
        x.restore(1);
        Check.due("replaced", x.count(7), 1);
        Check.due("no error is touched", x.errorCode(), 0);
    }
}
