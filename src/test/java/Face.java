/** One object under test: its calls are made by their names, so that tests can go through all of them alike. */
final class Face {

    /** The document promises nothing of later calls. */
    static final int MOST_CALLS = 512;

    private final DotRuns x = new DotRuns();
    private int calls = 0;

    int calls() {
        return calls;
    }

    /** The number that the call answers (0 if it answers none), or throws. and the name of the very exception. */
    String call(String name, int... a) {
        calls++;
        if (calls > MOST_CALLS) {
            throw new AssertionError("more calls than the document promises an answer to");
        }
        try {
            return name.equals("perDot") ? "" + x.perDot() : name.equals("byAbove") ? "" + x.byAbove()
                : "" + answer(name, a);
        } catch (RuntimeException e) {
            return "throws." + e.getClass().getSimpleName();
        }
    }

    int number(String name, int... a) {
        return Integer.parseInt(call(name, a));
    }

    /** Appends a text; the last four bytes may go too far and are cut. */
    void put(String text) {
        int length = 0;
        for (int i = 0; i < text.length(); i += 4) {
            int four = 0;
            for (int k = i; k < i + 4; k++) {
                four = four << 8 | (k < text.length() ? text.charAt(k) & 255 : ' ');
            }
            length = number("appendText", four);
        }
        if (text.length() % 4 != 0) {
            call("truncateText", length - (4 - text.length() % 4));
        }
    }

    private int answer(String name, int[] a) {
        switch (name) {
            case "appendText": return x.appendText(a[0]);
            case "truncateText": return x.truncateText(a[0]);
            case "load": return x.load();
            case "errorCode": return x.errorCode();
            case "errorPosition": return x.errorPosition();
            case "output": return x.output(a[0]);
            case "undo": return x.undo();
            case "save": x.save(a[0]); return 0;
            case "restore": x.restore(a[0]); return 0;
            default: return edited(name, a);
        }
    }

    private int edited(String name, int[] a) {
        switch (name) {
            case "set": return x.set(a[0], a[1]);
            case "lose": return x.lose(a[0], a[1]);
            case "addLine": return x.addLine(a[0], a[1]);
            case "paint": return x.paint(a[0], a[1], a[2], a[3]);
            case "shift": return x.shift(a[0], a[1]);
            case "copyLine": return x.copyLine(a[0], a[1]);
            case "removeLine": return x.removeLine(a[0]);
            case "invert": return x.invert(a[0]);
            case "swap": return x.swap(a[0], a[1]);
            default: return asked(name, a);
        }
    }

    private int asked(String name, int[] a) {
        switch (name) {
            case "count": return x.count(a[0]);
            case "dot": return x.dot(a[0], a[1]);
            case "line": return x.line(a[0], a[1]);
            case "run": return x.run(a[0], a[1]);
            case "mode": return x.mode(a[0], a[1], a[2]);
            case "change": return x.change(a[0], a[1]);
            case "longest": return x.longest(a[0]);
            case "runsOf": return x.runsOf(a[0], a[1]);
            case "readBelow": return x.readBelow(a[0], a[1]);
            default: return sent(name, a);
        }
    }

    private int sent(String name, int[] a) {
        switch (name) {
            case "sent": return x.sent(a[0]);
            case "sentLine": return x.sentLine(a[0], a[1]);
            case "received": return x.received(a[0], a[1]);
            case "harm": return x.harm(a[0], a[1]);
            case "worst": return x.worst();
            case "bestEvery": return x.bestEvery();
            case "needsSteps": return x.needsSteps();
            case "write": return x.write(a[0]);
            case "show": return x.show(a[0]);
            default: throw new AssertionError("there is no call " + name);
        }
    }
}
