/** The boundary cases that the document names of the promises 34 to 39. All values are worked out by hand. */
final class KeepEdgeTest {

    public static void main(String[] args) {
        writeTheShortestAndTheLongest();
        writeNumbersOfOneAndTwoDigits();
        showAStateOnlyIfItIsNot0();
        outputOnlyOfWhatWasWritten();
        refusedWriteAndShowLeaveTheOutput();
        outputStays();
        undoWithoutAnEdit();
        undoTheLatestTen();
        undoAroundTheEndOfTheTen();
        undoIsNoEdit();
        loadAndRestoreEndTheEdits();
        saveInTheSlots0And1();
        restoreOnlyWhatWasSaved();
        savedStatesStay();
        saveAndRestoreLeaveTheRest();
        allOf512Calls();
        Check.end("KeepEdgeTest");
    }

    private static void written(DotRuns x, int line, String want) {
        Check.due("bytes of " + want, x.write(line), want.length());
        Check.due("write", Calls.output(x), want);
        Check.due("behind the last byte", x.output(want.length()), -1);
    }

    private static void shown(DotRuns x, int line, String want) {
        Check.due("bytes of " + want, x.show(line), want.length());
        Check.due("show", Calls.output(x), want);
        Check.due("behind the last byte", x.output(want.length()), -1);
    }

    private static int restore(DotRuns x, int slot) {
        x.restore(slot);
        return 0;
    }

    private static int save(DotRuns x, int slot) {
        x.save(slot);
        return 0;
    }

    /** The longest line has 41 numbers, and 41 modes; the longest code of modes is -1 for all its ends but the last. */
    private static void writeTheShortestAndTheLongest() {
        DotRuns x = Calls.loaded("wide 40;line " + Told.times(20, ".#") + ";line " + Told.times(20, "#.") + ";");
        written(x, 0, "alone" + Told.times(40, " 1"));
        written(x, 1, "above" + Told.times(40, " v-1") + " v0");
        x.set(0, 1);
        written(x, 1, "alone 0" + Told.times(40, " 1"));
        DotRuns y = Calls.loaded("wide 8;alone 8;alone 8;");
        written(y, 0, "alone 8");
        written(y, 1, "above v0");
        DotRuns h = Calls.loaded("wide 40;alone 40;line " + Told.times(19, "#.") + "..;");
        written(h, 1, "above h0 1" + Told.times(18, " h1 1") + " v0");
    }

    private static void writeNumbersOfOneAndTwoDigits() {
        DotRuns x = Calls.loaded("wide 40;set 0 8;alone 40;alone 9 10 21;alone 10 9 21;alone 40;alone 0 40;alone 40;");
        written(x, 1, "above h9 10 v0");
        written(x, 2, "above v1 v0 v0");
        written(x, 3, "above p v0");
        written(x, 4, "above h0 40");
        written(x, 5, "above h40 0");
        x.set(0, 1);
        written(x, 0, "alone 40");
        written(x, 1, "alone 9 10 21");
        written(x, 2, "alone 10 9 21");
        written(x, 4, "alone 0 40");
        for (int black = 1; black < 40; black++) {
            String code = black + " " + (40 - black);
            written(Calls.loaded("wide 40;alone 0 " + code + ";"), 0, "alone 0 " + code);
        }
        for (int by = -3; by <= 3; by++) {
            written(Calls.loaded("alone 8 8;alone " + (8 + by) + " " + (8 - by) + ";"), 1, "above v" + by + " v0");
        }
    }

    /** "and then, if it is not of the state 0, the digit of its state". */
    private static void showAStateOnlyIfItIsNot0() {
        DotRuns x = Calls.loaded("wide 8;set 2 1;line ..##....;line ..###...;alone 8;loss 1 1;");
        shown(x, 0, "..##....");
        shown(x, 1, "........1");
        shown(x, 2, "........2");
        DotRuns y = Calls.loaded("wide 8;line ..##....;line ...##...;line ....##..;loss 1 1;");
        shown(y, 1, "..##....1");
        shown(y, 2, "...##...3");
        DotRuns w = Calls.loaded("wide 40;alone 0 40;alone 0 40;loss 1 1;");
        shown(w, 0, Told.times(40, "#"));
        shown(w, 1, Told.times(40, "#") + "1");
        DotRuns late = Calls.loaded("wide 8;line ..##....;loss 0 5;set 3 9;");
        shown(late, 0, "..##....");
        late.set(3, 4);
        shown(late, 0, "........1");
    }

    /** "NONE if there is no such byte, or nothing was written". */
    private static void outputOnlyOfWhatWasWritten() {
        DotRuns x = Calls.loaded("wide 40;alone 0 40;");
        for (int index : new int[] {Integer.MIN_VALUE, -1, 0, 1, Integer.MAX_VALUE}) {
            Check.due("nothing was written, " + index, x.output(index), -1);
        }
        written(x, 0, "alone 0 40");
        Check.due("the first byte", x.output(0), 'a');
        Check.due("the last byte", x.output(9), '0');
        for (int index : new int[] {Integer.MIN_VALUE, -1, 10, 40, 300, Integer.MAX_VALUE}) {
            Check.due("no such byte, " + index, x.output(index), -1);
        }
        shown(x, 0, Told.times(40, "#"));
        written(x, 0, "alone 0 40");
        Check.due("a longer one is gone", x.output(39), -1);
    }

    private static void refusedWriteAndShowLeaveTheOutput() {
        DotRuns x = new DotRuns();
        Check.index("write without lines", () -> x.write(0));
        Check.index("show without lines", () -> x.show(0));
        Check.due("nothing was written", x.output(0), -1);
        x.addLine(0, 1);
        written(x, 0, "alone 0 1 15");
        for (int line : new int[] {-1, 1, 20, Integer.MAX_VALUE, Integer.MIN_VALUE}) {
            Check.index("write " + line, () -> x.write(line));
            Check.index("show " + line, () -> x.show(line));
        }
        Check.due("stays", Calls.output(x), "alone 0 1 15");
    }

    private static void outputStays() {
        DotRuns x = Calls.loaded("wide 8;line ##......;");
        x.save(0);
        shown(x, 0, "##......");
        x.invert(0);
        x.undo();
        Calls.load(x, "wide 40;alone 40;");
        Calls.load(x, "$");
        x.restore(0);
        x.removeLine(0);
        Check.due("until the next one", Calls.output(x), "##......");
    }

    /** "NONE if there is none to undo". */
    private static void undoWithoutAnEdit() {
        DotRuns x = new DotRuns();
        Check.due("a new object", x.undo(), -1);
        Check.argument("a refused edit", () -> x.set(0, 0));
        Check.due("is none", x.undo(), -1);
        x.set(0, 1);
        Check.due("one", x.undo(), 0);
        Check.due("no more", x.undo(), -1);
        Check.due("as at first", x.count(0), 4);
    }

    /** "(the latest 10 can)". */
    private static void undoTheLatestTen() {
        for (int edits : new int[] {1, 9, 10, 11, 12, 25}) {
            DotRuns x = new DotRuns();
            for (int i = 1; i <= edits; i++) {
                x.set(4, i);
            }
            int can = Math.min(edits, 10);
            Check.due("of " + edits, x.count(11), can);
            for (int left = can - 1; left >= 0; left--) {
                Check.due("left", x.undo(), left);
                Check.due("can still", x.count(11), left);
                int head = edits - can + left;
                Check.due("HEAD", x.count(4), head == 0 ? 8 : head);
            }
            Check.due("no more", x.undo(), -1);
            Check.due("stays", x.count(11), 0);
        }
    }

    /** Edits and undoes that go around more than ten places, again and again. */
    private static void undoAroundTheEndOfTheTen() {
        DotRuns x = new DotRuns();
        int head = 0;
        int can = 0;
        for (int round = 0; round < 7; round++) {
            for (int i = 0; i < 8; i++) {
                x.set(4, ++head);
                can = Math.min(can + 1, 10);
                Check.due("can be undone", x.count(11), can);
            }
            for (int i = 0; i < 5; i++) {
                head--;
                can--;
                Check.due("left", x.undo(), can);
                Check.due("HEAD", x.count(4), head);
            }
        }
    }

    private static void undoIsNoEdit() {
        DotRuns x = Calls.loaded("wide 8;line ##......;");
        x.invert(0);
        x.shift(0, 1);
        Check.due("one is left", x.undo(), 1);
        Check.due("dots", Calls.row(x, 0), "..######");
        Check.due("none is left", x.undo(), 0);
        Check.due("dots", Calls.row(x, 0), "##......");
        Check.due("what was undone does not come back", x.undo(), -1);
        Check.due("dots", Calls.row(x, 0), "##......");
    }

    /** "No edit can be undone then"; a text with an error changes nothing, and leaves the edits. */
    private static void loadAndRestoreEndTheEdits() {
        DotRuns x = Calls.loaded("wide 8;line ##......;");
        x.save(1);
        x.invert(0);
        Check.due("an error", Calls.load(x, "alone 17;"), -1);
        Check.due("stays", x.count(11), 1);
        Check.state("nothing is saved there", () -> restore(x, 0));
        Check.argument("no slot", () -> restore(x, 2));
        Check.due("stays", x.count(11), 1);
        Check.due("undo", x.undo(), 0);
        Check.due("dots", Calls.row(x, 0), "##......");
        x.invert(0);
        x.restore(1);
        Check.due("behind restore", x.count(11), 0);
        Check.due("behind restore", x.undo(), -1);
        x.invert(0);
        Check.due("a text without error", Calls.load(x, "wide 8;alone 8;"), 1);
        Check.due("behind load", x.count(11), 0);
        Check.due("behind load", x.undo(), -1);
        Check.due("dots", Calls.row(x, 0), "........");
        for (int i = 0; i < 12; i++) {
            x.set(4, i);
        }
        x.restore(1);
        x.set(4, 50);
        Check.due("one behind restore", x.undo(), 0);
        Check.due("and none of those ahead of it", x.undo(), -1);
        Check.due("HEAD", x.count(4), 8);
    }

    /** "slot: 0 or 1; what is already saved there is replaced". */
    private static void saveInTheSlots0And1() {
        DotRuns x = new DotRuns();
        for (int slot : new int[] {-1, 2, Integer.MIN_VALUE, Integer.MAX_VALUE}) {
            Check.argument("save " + slot, () -> save(x, slot));
            Check.argument("restore " + slot, () -> restore(x, slot));
        }
        Check.state("nothing is saved in 0", () -> restore(x, 0));
        Check.state("nothing is saved in 1", () -> restore(x, 1));
        x.save(0);
        x.set(4, 1);
        x.save(1);
        x.set(4, 2);
        x.restore(0);
        Check.due("0", x.count(4), 8);
        x.restore(1);
        Check.due("1", x.count(4), 1);
        x.set(4, 3);
        x.save(0);
        x.restore(1);
        Check.due("1 is not replaced", x.count(4), 1);
        x.restore(0);
        Check.due("0 is replaced", x.count(4), 3);
    }

    /** "if nothing is saved there". */
    private static void restoreOnlyWhatWasSaved() {
        for (int slot = 0; slot <= 1; slot++) {
            DotRuns x = Calls.loaded("wide 8;line ##......;");
            int other = 1 - slot;
            x.save(slot);
            x.invert(0);
            Check.state("the other slot", () -> restore(x, other));
            Check.due("changes nothing", Calls.row(x, 0), "..######");
            Check.due("changes nothing", x.count(11), 1);
            x.restore(slot);
            Check.due("this slot", Calls.row(x, 0), "##......");
        }
    }

    /** "Brings back what was saved, which stays saved": the page with its width, the settings and LOSS. */
    private static void savedStatesStay() {
        DotRuns x = Calls.loaded("wide 40;line " + Told.times(20, "#.") + ";set 1 1;set 3 9;loss 0 2;loss 19 5;");
        String before = Calls.all(x);
        x.save(0);
        for (int round = 0; round < 2; round++) {
            x.invert(0);
            x.undo();
            x.removeLine(0);
            x.lose(0, 1);
            x.lose(19, 1);
            x.set(3, 0);
            Calls.load(x, "wide 8;" + Told.times(20, "alone 8;"));
            x.restore(0);
            Check.due("as it was saved", Calls.all(x), before);
            Check.due("LOSS of no line", x.lose(19, 5), 5);
        }
        DotRuns empty = new DotRuns();
        empty.save(1);
        empty.addLine(0, 1);
        empty.restore(1);
        Check.due("a page without lines", empty.count(7), 0);
    }

    /** Neither of them touches the text buffer, the error or the output; save() is no edit and ends none. */
    private static void saveAndRestoreLeaveTheRest() {
        DotRuns x = Calls.loaded("wide 8;line ##......;");
        Calls.load(x, "set 6 1;");
        x.write(0);
        x.invert(0);
        Calls.put(x, "above p;");
        x.save(0);
        Check.due("one edit", x.count(11), 1);
        x.restore(0);
        Check.due("error code", x.errorCode(), 2);
        Check.due("error position", x.errorPosition(), 4);
        Check.due("output", Calls.output(x), "alone 0 2 6");
        Check.due("text", x.truncateText(8), 8);
        Check.due("text", x.load(), 1);
    }

    /** "An object is used for at most 512 calls": the last of them answer as the first ones. */
    private static void allOf512Calls() {
        DotRuns x = new DotRuns();
        for (int call = 1; call <= 509; call++) {
            Check.due("call " + call, x.set(4, call % 100), call == 1 ? 8 : (call - 1) % 100);
        }
        Check.due("call 510", x.addLine(3, 6), 0);
        Check.due("call 511", x.sent(0), 9 + 16);
        Check.due("call 512", x.undo(), 9);
    }
}
