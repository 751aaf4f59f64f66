/** What a line is, told in a text, so that a test shows the whole of what it wants. */
final class Told {

    private static final char[] LETTERS = {'p', 'v', 'h'};

    private Told() {
    }

    /** The numbers of the code alone, by run(). */
    static String runs(DotRuns x, int line) {
        StringBuilder text = new StringBuilder();
        for (int index = 0; x.run(line, index) != DotRuns.NONE; index++) {
            text.append(index == 0 ? "" : " ").append(x.run(line, index));
        }
        return text.toString();
    }

    /** The modes of the code by the line above, by mode(), and behind each one a > and a. */
    static String modes(DotRuns x, int line) {
        StringBuilder text = new StringBuilder();
        for (int index = 0; x.mode(line, index, 0) != -9; index++) {
            int kind = x.mode(line, index, 0);
            text.append(index == 0 ? "" : " ").append(LETTERS[kind]);
            text.append(kind == 0 ? "" : "" + x.mode(line, index, 1));
            text.append(kind == 2 ? " " + x.mode(line, index, 2) : "");
            text.append('>').append(x.mode(line, index, 3));
        }
        return text.toString();
    }

    /** The positions of the changes, by change(). */
    static String changes(DotRuns x, int line) {
        StringBuilder text = new StringBuilder();
        for (int index = 0; x.change(line, index) != DotRuns.NONE; index++) {
            text.append(index == 0 ? "" : " ").append(x.change(line, index));
        }
        return text.toString();
    }

    /** The dots as the receiver has them at the end, by received(). */
    static String received(DotRuns x, int line) {
        StringBuilder text = new StringBuilder();
        for (int at = 0; at < x.count(6); at++) {
            text.append(x.received(line, at) == 0 ? '.' : '#');
        }
        return text.toString();
    }

    /** The text so many times. */
    static String times(int times, String text) {
        StringBuilder all = new StringBuilder();
        for (int i = 0; i < times; i++) {
            all.append(text);
        }
        return all.toString();
    }
}
