import java.util.Arrays;
import java.util.function.Consumer;

/**
 * What the document does not name at a call stays as it was: each call against each part of the object that it must
 * leave. Asking for one part may change others, so each is asked on an object of its own, and compared with a twin.
 */
final class LeavesTest {

    private static final String[] PARTS = {"text", "error", "output", "rows", "settings", "losses", "edits", "saved 0",
        "saved 1"};

    private static final String GOOD = "wide 9;alone 9;set 4 1;loss 3 3;";

    public static void main(String[] args) {
        texts();
        edits();
        output();
        undoAndSavedStates();
        asked();
        Check.end("LeavesTest");
    }

    private static void texts() {
        changes("appendText", "text", x -> x.call("appendText", ';' << 24 | 0x202020));
        changes("appendText of what is no token", "text", x -> x.call("appendText", -1));
        changes("truncateText", "text", x -> x.call("truncateText", 0));
        changes("load", "text, error, rows, settings, losses, edits", x -> load(x, GOOD));
        changes("load of an empty text", "text, error, rows, settings, losses, edits", x -> load(x, ""));
        changes("load with an error", "text, error", x -> load(x, GOOD + "$"));
    }

    private static void load(Face x, String text) {
        x.call("truncateText", 0);
        x.put(text);
        x.call("load");
    }

    private static void edits() {
        changes("set", "settings, edits", x -> x.call("set", 4, 1));
        changes("lose", "losses, edits", x -> x.call("lose", 1, 5));
        changes("addLine", "rows, edits", x -> x.call("addLine", 1, 2));
        changes("paint", "rows, edits", x -> x.call("paint", 0, 0, 8, 1));
        changes("shift", "rows, edits", x -> x.call("shift", 0, 1));
        changes("copyLine", "rows, edits", x -> x.call("copyLine", 1, 0));
        changes("removeLine", "rows, edits", x -> x.call("removeLine", 0));
        changes("invert", "rows, edits", x -> x.call("invert", 0));
        changes("swap", "rows, edits", x -> x.call("swap", 0, 1));
    }

    private static void output() {
        changes("write", "output", x -> x.call("write", 0));
        changes("write of a line by the line above", "output", x -> x.call("write", 1));
        changes("show", "output", x -> x.call("show", 0));
        changes("output", "", x -> x.call("output", 0));
    }

    private static void undoAndSavedStates() {
        changes("undo", "rows, settings, losses, edits", x -> x.call("undo"));
        changes("undo of all", "rows, settings, losses, edits", x -> {
            while (x.number("undo") >= 0) {
                continue;
            }
        });
        changes("save 0", "saved 0", x -> x.call("save", 0));
        changes("save 1", "saved 1", x -> x.call("save", 1));
        changes("restore 0", "rows, settings, losses, edits", x -> x.call("restore", 0));
        changes("restore 1", "rows, settings, losses, edits", x -> x.call("restore", 1));
    }

    /** All that only ask, one behind the other. */
    private static void asked() {
        changes("what only asks", "", x -> {
            for (String name : Rules.ASKS) {
                for (int number = 0; number < 4; number++) {
                    int[] numbers = new int[Rules.parameters(name)];
                    Arrays.fill(numbers, number);
                    x.call(name, numbers);
                }
            }
        });
    }

    private static void changes(String call, String may, Consumer<Face> way) {
        for (Start start : new Start[] {Start.empty(), Start.small(), Start.full()}) {
            for (String part : PARTS) {
                if (!may.contains(part)) {
                    Face x = start.made();
                    way.accept(x);
                    Check.due(start.name + ": " + call + " leaves " + part, told(x, part), told(start.made(), part));
                }
            }
        }
    }

    private static String told(Face x, String part) {
        switch (part) {
            case "text": return text(x);
            case "error": return x.call("errorCode") + " " + x.call("errorPosition");
            case "output": return output(x);
            case "rows": return rows(x);
            case "settings": return settings(x);
            case "losses": return losses(x);
            case "edits": return edits(x);
            case "saved 0": return saved(x, 0);
            default: return saved(x, 1);
        }
    }

    /** What is there is read, with something behind it that makes the text of Start.small() whole. */
    private static String text(Face x) {
        x.put(" 8;");
        int lines = x.number("load");
        return lines + " " + x.call("errorCode") + " " + x.call("errorPosition") + (lines < 0 ? "" : rows(x));
    }

    private static String saved(Face x, int slot) {
        String restored = x.call("restore", slot);
        return restored.equals("0") ? page(x) : restored;
    }

    private static String output(Face x) {
        StringBuilder told = new StringBuilder();
        int sign = x.number("output", 0);
        for (int index = 1; sign >= 0; index++) {
            told.append((char) sign);
            sign = x.number("output", index);
        }
        return told.toString();
    }

    private static String rows(Face x) {
        StringBuilder told = new StringBuilder(x.call("count", 6));
        int lines = x.number("count", 7);
        for (int line = 0; line < lines; line++) {
            told.append(';');
            int run = 0;
            for (int index = 0; run >= 0; index++) {
                run = x.number("run", line, index);
                told.append(' ').append(run);
            }
        }
        return told.toString();
    }

    private static String settings(Face x) {
        StringBuilder told = new StringBuilder();
        for (int what = 0; what <= 5; what++) {
            told.append(x.call("count", what)).append(' ');
        }
        return told.toString();
    }

    private static String losses(Face x) {
        StringBuilder told = new StringBuilder();
        for (int line = 0; line < 20; line++) {
            told.append(x.call("lose", line, 0)).append(' ');
        }
        return told.toString();
    }

    /** How many there are, and what comes back with each. */
    private static String edits(Face x) {
        StringBuilder told = new StringBuilder(x.call("count", 11));
        while (x.number("undo") >= 0) {
            told.append(';').append(settings(x)).append(x.call("count", 7)).append(x.call("count", 8));
            told.append(x.call("count", 9));
        }
        return told + page(x);
    }

    private static String page(Face x) {
        return rows(x) + settings(x) + losses(x);
    }
}
