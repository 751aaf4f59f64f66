/** Calls that tests make again and again. */
final class Calls {

    private Calls() {
    }

    /** Appends a text of any length: the last four bytes may go too far and are cut. */
    static void put(DotRuns x, String text) {
        int length = 0;
        for (int i = 0; i < text.length(); i += 4) {
            int four = 0;
            for (int k = i; k < i + 4; k++) {
                four = four << 8 | (k < text.length() ? text.charAt(k) & 255 : 'x');
            }
            length = x.appendText(four);
        }
        if (text.length() % 4 != 0) {
            x.truncateText(length - (4 - text.length() % 4));
        }
    }

    /** Loads a text that stands alone in the buffer. */
    static int load(DotRuns x, String text) {
        x.truncateText(0);
        put(x, text);
        return x.load();
    }

    static DotRuns loaded(String text) {
        DotRuns x = new DotRuns();
        Check.due("load of <" + text + "> has no error", load(x, text) >= 0 ? 1 : 0, 1);
        return x;
    }

    /** What stands in the output. */
    static String output(DotRuns x) {
        StringBuilder text = new StringBuilder();
        for (int i = 0; x.output(i) != DotRuns.NONE && i < 1000; i++) {
            text.append((char) x.output(i));
        }
        return text.toString();
    }

    /** The dots of a line, a sign each. */
    static String row(DotRuns x, int line) {
        StringBuilder text = new StringBuilder();
        for (int at = 0; at < x.count(6); at++) {
            text.append(x.dot(line, at) == 0 ? '.' : '#');
        }
        return text.toString();
    }

    /** All that can be asked of the page, the settings and LOSS, without changing anything. */
    static String all(DotRuns x) {
        StringBuilder text = new StringBuilder();
        for (int what = 0; what <= 12; what++) {
            text.append(x.count(what)).append(' ');
        }
        for (int line = 0; line < x.count(7); line++) {
            text.append(row(x, line)).append(x.line(line, 9)).append(' ');
        }
        return text.append(x.errorCode()).append(' ').append(x.errorPosition()).toString();
    }
}
