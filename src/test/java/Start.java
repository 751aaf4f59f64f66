import java.util.function.Consumer;

/** A state that a test starts from, how it is reached, and what the exceptions of the calls depend on in it. */
final class Start {

    final String name;
    final int width;
    final int lines;
    final int text;
    final boolean[] saved;
    private final Consumer<Face> way;

    private Start(String name, int width, int lines, int text, boolean[] saved, Consumer<Face> way) {
        this.name = name;
        this.width = width;
        this.lines = lines;
        this.text = text;
        this.saved = saved;
        this.way = way;
    }

    Face made() {
        Face x = new Face();
        way.accept(x);
        return x;
    }

    static Start[] all() {
        return new Start[] {empty(), small(), full(), brim(900), brim(897), brim(896)};
    }

    static Start empty() {
        return new Start("a new object", 16, 0, 0, new boolean[2], x -> { });
    }

    /** Something of everything: an error, an output, four edits, one saved state, a text that was begun. */
    static Start small() {
        return new Start("three lines", 8, 3, 7, new boolean[] {true, false}, x -> {
            x.put("wide 8;line ..##....;line ...##...;loss 1 2;loss 19 3;set 3 1;");
            x.call("load");
            x.put("wide 7;");
            x.call("load");
            x.call("show", 1);
            x.call("save", 0);
            x.call("addLine", 4, 6);
            x.call("lose", 2, 1);
            x.call("set", 4, 9);
            x.call("paint", 0, 7, 8, 1);
            x.put("alone 8");
        });
    }

    /** 20 lines of 40 dots, both states saved, nine edits. */
    static Start full() {
        return new Start("a full page", 40, 20, 0, new boolean[] {true, true}, x -> {
            StringBuilder text = new StringBuilder("wide 40;");
            for (int i = 0; i < 19; i++) {
                text.append("alone ").append(i + 1).append(" 3 ").append(36 - i).append(";");
            }
            x.put(text.toString());
            x.call("load");
            x.call("save", 0);
            x.call("addLine", 0, 40);
            x.call("save", 1);
            for (int i = 0; i < 8; i++) {
                x.call("lose", 2 * i, 1 + i % 5);
            }
            x.call("write", 19);
        });
    }

    /** A text buffer that has just room enough, or just not. */
    static Start brim(int length) {
        return new Start("a text of " + length + " bytes", 16, 0, length, new boolean[2], x -> {
            for (int i = 0; i < 225; i++) {
                x.call("appendText", i == 0 ? 'p' << 24 | 0x202020 : 0x20202020);
            }
            x.call("truncateText", length);
        });
    }

    /** All that can be found out about an object. It is changed by that, so a twin is asked the same. */
    static String story(Face x) {
        StringBuilder told = new StringBuilder();
        told.append(x.call("errorCode")).append(' ').append(x.call("errorPosition")).append('\n');
        tellOutput(x, told);
        tellNumbers(x, told);
        tellLines(x, told);
        while (x.number("undo") >= 0) {
            tellNumbers(x, told);
        }
        for (int line = 0; line < 20; line++) {
            told.append(x.call("lose", line, 0)).append(' ');
        }
        told.append('\n').append(x.call("load")).append(x.call("errorCode")).append(x.call("errorPosition"));
        for (int slot = 0; slot < 2; slot++) {
            told.append('\n').append(x.call("restore", slot));
            tellNumbers(x, told);
        }
        return told.toString();
    }

    private static void tellOutput(Face x, StringBuilder told) {
        int sign = x.number("output", 0);
        for (int index = 1; sign >= 0; index++) {
            told.append((char) sign);
            sign = x.number("output", index);
        }
    }

    private static void tellNumbers(Face x, StringBuilder told) {
        told.append('\n');
        for (int what = 0; what <= 9; what++) {
            told.append(x.call("count", what)).append(' ');
        }
    }

    private static void tellLines(Face x, StringBuilder told) {
        int lines = x.number("count", 7);
        for (int line = 0; line < lines; line++) {
            told.append('\n').append(x.call("line", line, 2));
            int run = 0;
            for (int index = 0; run >= 0; index++) {
                run = x.number("run", line, index);
                told.append(' ').append(run);
            }
        }
        told.append('\n').append(x.call("sent", 0)).append(' ').append(x.call("count", 11));
    }
}
