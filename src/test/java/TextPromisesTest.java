/** Promises 1 to 6: a new object, the text buffer, load and its errors. The values are worked out by hand. */
final class TextPromisesTest {

    private static final String WHITE16 = "................";

    public static void main(String[] args) {
        newObject();
        appendText();
        truncateText();
        loadReplacesAll();
        loadWithErrorChangesNothing();
        goodTexts();
        errors();
        tooManyLines();
        Check.end("TextPromisesTest");
    }

    private static void newObject() {
        DotRuns x = new DotRuns();
        int[] want = {4, 0, 0, 0, 8, 16, 16, 0, 0, 0, 0, 0, 0};
        for (int what = 0; what < want.length; what++) {
            Check.due("new count " + what, x.count(what), want[what]);
        }
        Check.due("new errorCode", x.errorCode(), 0);
        Check.due("new errorPosition", x.errorPosition(), -1);
        Check.due("new output", x.output(0), -1);
        Check.due("new undo", x.undo(), -1);
        for (int slot = 0; slot < 2; slot++) {
            int s = slot;
            Check.state("new restore", () -> restored(x, s));
        }
        for (int line = 0; line < 20; line++) {
            Check.due("new loss", new DotRuns().lose(line, 0), 0);
        }
        Check.due("NONE", DotRuns.NONE, -1);
        Check.due("new text", x.truncateText(0), 0);
        Check.argument("new text is empty", () -> x.truncateText(1));
    }

    private static int restored(DotRuns x, int slot) {
        x.restore(slot);
        return 0;
    }

    private static void appendText() {
        DotRuns x = new DotRuns();
        Check.due("append", x.appendText('a' << 24 | 'b' << 16 | 'o' << 8 | 'v'), 4);
        Check.due("append", x.appendText('e' << 24 | ' ' << 16 | 'p' << 8 | ';'), 8);
        Check.due("highest byte first", x.load(), 1);
        for (int i = 1; i <= 225; i++) {
            Check.due("append up to 900", x.appendText(0x20202020), 4 * i);
        }
        Check.state("beyond 900", () -> x.appendText(0x20202020));
        Check.due("still 900", x.truncateText(900), 900);
        Check.due("897", x.truncateText(897), 897);
        Check.state("beyond 900 by one", () -> x.appendText(0x20202020));
        Check.due("896", x.truncateText(896), 896);
        Check.due("900 again", x.appendText(0x2020203b), 900);
        Check.due("900 bytes are read", x.load(), -1);
        Check.due("the last byte is wrong", x.errorPosition(), 899);
        DotRuns y = new DotRuns();
        y.appendText(-1);
        Check.due("a byte of 255", y.load(), -1);
        Check.due("a byte of 255", y.errorCode(), 1);
    }

    private static void truncateText() {
        DotRuns x = new DotRuns();
        Calls.put(x, "above p;xx");
        Check.argument("below 0", () -> x.truncateText(-1));
        Check.argument("beyond the text", () -> x.truncateText(11));
        Check.argument("far beyond", () -> x.truncateText(Integer.MAX_VALUE));
        Check.due("the whole", x.truncateText(10), 10);
        Check.due("cut", x.truncateText(8), 8);
        Check.argument("what is cut is gone", () -> x.truncateText(9));
        Check.due("the first bytes stay", x.load(), 1);
        Calls.put(x, "above p;");
        x.truncateText(0);
        Check.due("cut to nothing", x.load(), 0);
    }

    private static void loadReplacesAll() {
        DotRuns x = Calls.loaded("wide 8; line ..##....; set 0 2; set 1 1; set 2 1; set 3 9; set 4 99; set 5 0;"
            + "loss 19 5; loss 0 3; loss 0 2; set 4 7;");
        int[] want = {2, 1, 1, 9, 7, 0, 8, 1, 2, 2, 1, 0, 0};
        for (int what = 0; what < want.length; what++) {
            Check.due("loaded count " + what, x.count(what), want[what]);
        }
        Check.due("the row", Calls.row(x, 0), "..##....");
        Check.due("later loss", x.line(0, 9), 2);
        Check.due("loss without line", x.lose(19, 5), 5);
        x.addLine(1, 2);
        x.save(1);
        Check.due("an edit is there", x.count(11), 2);
        Check.due("empty text", x.load(), 0);
        Check.due("no edit can be undone", x.undo(), -1);
        int[] first = {4, 0, 0, 0, 8, 16, 16, 0, 0, 0, 0, 0, 0};
        for (int what = 0; what < first.length; what++) {
            Check.due("as at first " + what, x.count(what), first[what]);
        }
        Check.due("loss as at first", x.lose(19, 0), 0);
        x.restore(1);
        Check.due("saved states stay", x.count(7), 2);
        Check.due("saved width", x.count(6), 8);
    }

    private static void loadWithErrorChangesNothing() {
        DotRuns x = Calls.loaded("wide 9; line ..##.....; loss 3 2; set 4 5;");
        x.set(5, 3);
        x.show(0);
        String before = Calls.all(x);
        String shown = Calls.output(x);
        Check.due("error", Calls.load(x, "wide 20; set 0 1; loss 3 5; alone 20; alone 21;"), -1);
        Check.due("code", x.errorCode(), 2);
        Check.due("position", x.errorPosition(), 44);
        Check.argument("the text is empty", () -> x.truncateText(1));
        Check.due("load of nothing", new DotRuns().load(), 0);
        String behind = Calls.all(x);
        Check.due("nothing else", behind.substring(0, behind.length() - 4), before.substring(0, before.length() - 4));
        Check.due("loss", x.lose(3, 2), 2);
        Check.due("output", Calls.output(x), shown);
        Check.due("edits stay", x.undo(), 1);
        Check.due("edits stay", x.undo(), 0);
        Check.due("error is told until the next load", x.errorCode(), 2);
        x.load();
        Check.due("no error", x.errorCode(), 0);
        Check.due("no error", x.errorPosition(), -1);
    }

    private static void good(String text, String... rows) {
        DotRuns x = new DotRuns();
        Check.due("<" + text + ">", Calls.load(x, text), rows.length);
        Check.due("<" + text + "> code", x.errorCode(), 0);
        Check.due("<" + text + "> position", x.errorPosition(), -1);
        for (int line = 0; line < rows.length && line < x.count(7); line++) {
            Check.due("<" + text + ">", Calls.row(x, line), rows[line]);
        }
    }

    private static void goodTexts() {
        good("");
        good(" \n ");
        good("wide 40;");
        good("wide0000000000000000000000000008;alone8;", "........");
        good("line ................;", WHITE16);
        good("wide 8;line.#.#.#.#;line\n########\n;", ".#.#.#.#", "########");
        good("alone 16;alone 0 16;alone 3 4 9;", WHITE16, "################", "...####.........");
        good("above v0;above p;above v - 0;", WHITE16, WHITE16, WHITE16);
        good("above h2 2 v0;above v1 v0 v0;", "..##............", "...#............");
        good("wide 8;above h0 0 v0;above h 0 8;", "........", "########");
        good("wide 8;line ..##....;above p v0;above v-3 v-002 v0;", "..##....", "........",
            ".....#..");
        good("wide 8;line ..##....;above h0 1 h0 1 h6 0;", "..##....", "##......");
        good("wide 8; line ..##..##; above p v0 v0;", "..##..##", "......##");
        good("wide 8; line ..##..##; alone 8; above v-1 v0;", "..##..##", "........", ".......#");
    }

    private static void bad(String text, int code, int position) {
        DotRuns x = new DotRuns();
        Check.due("<" + text + ">", Calls.load(x, text), -1);
        Check.due("<" + text + "> code", x.errorCode(), code);
        Check.due("<" + text + "> position", x.errorPosition(), position);
    }

    private static void errors() {
        bad("wide 7;", 2, 5);
        bad("wide 41;", 2, 5);
        bad("wide 99999999999999999999999;", 2, 5);
        bad("wide 4294967304;", 2, 5);
        bad("wide 8", 1, 6);
        bad("wide 8 \n", 1, 8);
        bad("wide", 1, 4);
        bad("wide ;", 1, 5);
        bad("wide 8; wide 8;", 1, 8);
        bad("line ........;", 3, 5);
        bad("wide 8; line .........;", 3, 13);
        bad("line ........ ........;", 3, 5);
        bad("line ................ .;", 1, 22);
        bad("line ................", 1, 21);
        bad("line ;", 1, 5);
        bad("line 5;", 1, 5);
        bad("line", 1, 4);
        bad("linex ................;", 1, 0);
        bad("linez ................;", 1, 0);
        bad("aline ................;", 1, 0);
        bad("LINE ................;", 1, 0);
        bad("\tline ................;", 1, 0);
        bad("line\r................;", 1, 4);
        bad("alone;", 1, 5);
        bad("alone 17;", 2, 6);
        bad("alone 0 0 16;", 2, 8);
        bad("alone 5;", 3, 7);
        bad("alone 0;", 3, 7);
        bad("alone 5 12;", 4, 8);
        bad("alone 16 1;", 4, 9);
        bad("alone 16 0;", 2, 9);
        bad("alone 5 17;", 2, 8);
        bad("alone 5", 1, 7);
        bad("alone 16", 1, 8);
        bad("alone 5 p;", 1, 8);
        bad("alone -5;", 1, 6);
        bad("above;", 3, 5);
        bad("above", 1, 5);
        bad("above 5;", 1, 6);
        bad("above p p;", 4, 8);
        bad("above p v", 4, 8);
        bad("above p h$", 4, 8);
        bad("above p x;", 1, 8);
        bad("above p", 1, 7);
        bad("above pp;", 1, 6);
        bad("above v1;", 4, 6);
        bad("above v 1 $", 4, 6);
        bad("above v-1;", 3, 9);
        bad("above v-4;", 2, 8);
        bad("above v 4;", 2, 8);
        bad("above v-;", 1, 8);
        bad("above v--1;", 1, 8);
        bad("above v", 1, 7);
        bad("above -", 1, 6);
        bad("above h2;", 1, 8);
        bad("above h2 17;", 2, 9);
        bad("above h17 1;", 2, 7);
        bad("above h-1 1;", 1, 7);
        bad("above h16 1;", 4, 6);
        bad("above h16 17;", 2, 10);
        bad("above h0 0 h0 0;", 4, 11);
        bad("above h0 0;", 3, 10);
        bad("above h2 2 v0;above v1 v-1 v0;", 4, 23);
        bad("wide 8; line ..##....; above v-3 v0;", 4, 29);
        bad("wide 8; line ..##....; above v0 v-2;", 4, 32);
        bad("set 6 0;", 2, 4);
        bad("set 0 0;", 2, 6);
        bad("set 0 9;", 2, 6);
        bad("set 1 2;", 2, 6);
        bad("set 2 2;", 2, 6);
        bad("set 3 10;", 2, 6);
        bad("set 4 100;", 2, 6);
        bad("set 4 99; set 5 100;", 2, 16);
        bad("set -1 0;", 1, 4);
        bad("set;", 1, 3);
        bad("set 0;", 1, 5);
        bad("set 0 1", 1, 7);
        bad("set 0 1 1;", 1, 8);
        bad("loss 20 0;", 2, 5);
        bad("loss 19 6;", 2, 8);
        bad("loss 0;", 1, 6);
        bad("loss x;", 1, 5);
        bad(";", 1, 0);
        bad("set 0 1;;", 1, 8);
        bad("16", 1, 0);
        bad("v0;", 1, 0);
        bad("set 0 1\u00e9;", 1, 7);
    }

    private static void tooManyLines() {
        StringBuilder twenty = new StringBuilder();
        for (int i = 0; i < 20; i++) {
            twenty.append("above p;");
        }
        DotRuns x = new DotRuns();
        Check.due("20 lines", Calls.load(x, twenty.toString()), 20);
        bad(twenty + "above p;", 5, 160);
        bad(twenty + "set 0 1; line .;", 5, 169);
        bad(twenty + "alone", 5, 160);
        bad(twenty + "wide 8;", 1, 160);
        bad(twenty + "lines", 1, 160);
        Check.due("20 lines and a loss", Calls.load(x, twenty + "loss 0 1;"), 20);
    }
}
