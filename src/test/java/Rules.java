/**
 * The exceptions that the document lists for each call, in its order, as limits of the arguments. It says nothing of
 * what a call answers otherwise.
 */
final class Rules {

    static final String INDEX = "throws.IndexOutOfBoundsException";
    static final String ARGUMENT = "throws.IllegalArgumentException";
    static final String STATE = "throws.IllegalStateException";

    static final String[] ASKS = {"count", "dot", "line", "run", "mode", "change", "longest", "runsOf", "readBelow",
        "sent", "sentLine", "received", "harm", "worst", "bestEvery", "needsSteps", "perDot", "byAbove", "output",
        "errorCode", "errorPosition"};
    static final String[] EDITS = {"set", "lose", "addLine", "paint", "shift", "copyLine", "removeLine", "invert",
        "swap"};
    static final String[] OTHERS = {"appendText", "truncateText", "load", "write", "show", "undo", "save", "restore"};

    private static final int[] LEAST = {1, 0, 0, 0, 0, 0};
    private static final int[] MOST = {8, 1, 1, 9, 99, 99};

    private Rules() {
    }

    static int parameters(String name) {
        switch (name) {
            case "load": case "errorCode": case "errorPosition": case "worst": case "bestEvery": case "needsSteps":
            case "perDot": case "byAbove": case "undo":
                return 0;
            case "appendText": case "truncateText": case "count": case "longest": case "removeLine": case "invert":
            case "sent": case "write": case "show": case "output": case "save": case "restore":
                return 1;
            case "mode":
                return 3;
            case "paint":
                return 4;
            default:
                return 2;
        }
    }

    private static boolean in(int value, int least, int most) {
        return least <= value && value <= most;
    }

    /** The first of the exceptions that is due, in the order in which they are handed over; empty without one. */
    private static String first(boolean good, String exception, boolean goodToo, String exceptionToo) {
        return !good ? exception : !goodToo ? exceptionToo : "";
    }

    private static String only(boolean good, String exception) {
        return good ? "" : exception;
    }

    /** The exception that is due, or an empty text. */
    static String due(Start at, String name, int... a) {
        boolean aLine = a.length > 0 && in(a[0], 0, at.lines - 1);
        switch (name) {
            case "appendText": return only(at.text + 4 <= 900, STATE);
            case "truncateText": return only(in(a[0], 0, at.text), ARGUMENT);
            case "count": return only(in(a[0], 0, 12), ARGUMENT);
            case "dot": case "received": return only(aLine && in(a[1], 0, at.width - 1), INDEX);
            case "line": return first(aLine, INDEX, in(a[1], 0, 11), ARGUMENT);
            case "run": case "change": return only(aLine && a[1] >= 0, INDEX);
            case "mode": return first(aLine && a[1] >= 0, INDEX, in(a[2], 0, 3), ARGUMENT);
            case "longest": return only(in(a[0], 0, 1), ARGUMENT);
            case "runsOf": return only(in(a[0], 0, 1) && in(a[1], 1, 40), ARGUMENT);
            case "readBelow": return only(aLine && in(a[1], -1, at.lines - 1), INDEX);
            case "sent": return only(in(a[0], 0, 9), ARGUMENT);
            case "sentLine": return first(aLine, INDEX, in(a[1], 0, 4), ARGUMENT);
            case "harm": return first(aLine, INDEX, in(a[1], 0, 2), ARGUMENT);
            case "write": case "show": return only(aLine, INDEX);
            case "save": return only(in(a[0], 0, 1), ARGUMENT);
            case "restore": return first(in(a[0], 0, 1), ARGUMENT, a[0] != 0 && a[0] != 1 || at.saved[a[0]], STATE);
            default: return dueOfEdit(at, name, aLine, a);
        }
    }

    private static String dueOfEdit(Start at, String name, boolean aLine, int... a) {
        switch (name) {
            case "set": return only(in(a[0], 0, 5) && in(a[1], LEAST[a[0]], MOST[a[0]]), ARGUMENT);
            case "lose": return first(in(a[0], 0, 19), INDEX, in(a[1], 0, 5), ARGUMENT);
            case "addLine": return first(span(at, a[0], a[1]), ARGUMENT, at.lines < 20, STATE);
            case "paint": return first(aLine, INDEX, span(at, a[1], a[2]) && in(a[3], 0, 1), ARGUMENT);
            case "shift": return first(aLine, INDEX, in(a[1], -40, 40), ARGUMENT);
            case "copyLine": return first(aLine && in(a[1], 0, at.lines), INDEX, at.lines < 20, STATE);
            case "removeLine": case "invert": return only(aLine, INDEX);
            case "swap": return only(aLine && in(a[1], 0, at.lines - 1), INDEX);
            default: return "";
        }
    }

    private static boolean span(Start at, int from, int to) {
        return in(from, 0, at.width) && in(to, from, at.width);
    }
}
