/**
 * Pages of lines of dots that are sent line by line. The document ../shared/DOC.md says what each call does.
 *
 * <p>A line is held as a long: the dot at the position i is its bit i, 1 for black. All bits from the width on are 0.
 * So "white" is 0, and a line that there is not (the one above the line 0) reads as white.
 *
 * <p>All rows are made with the object and used again, because what a call makes is never given back.
 */
public final class DotRuns {

    public static final int NONE = -1;

    private static final int MOST_LINES = 20;
    private static final int MOST_WIDTH = 40;
    private static final int LEAST_WIDTH = 8;
    private static final int FIRST_WIDTH = 16;
    private static final int MOST_TIMES = 5;
    private static final int MOST_TEXT = 900;
    private static final int MOST_UNDO = 10;
    private static final int SLOTS = 2;

    /** The place a goes from -1 to 40, with each mode by at least 1. */
    private static final int MOST_MODES = 41;

    /** The longest output is "above" and 41 modes of at most 7 bytes. */
    private static final int MOST_OUTPUT = 300;

    /** 20 lines, and at most 9 steps back with at most 20 lines each, are 200 sendings. */
    private static final int MOST_SENDINGS = 1000;

    private static final int EVERY = 0;
    private static final int CHOOSE = 1;
    private static final int FILL = 2;
    private static final int STEPS = 3;
    private static final int HEAD = 4;
    private static final int ASK = 5;
    private static final int SETTINGS = 6;

    private static final int[] FIRST_SETTINGS = {4, 0, 0, 0, 8, 16};
    private static final int[] LEAST_SETTINGS = {1, 0, 0, 0, 0, 0};
    private static final int[] MOST_SETTINGS = {8, 1, 1, 9, 99, 99};

    private static final int PASS = 0;
    private static final int VERTICAL = 1;
    private static final int HORIZONTAL = 2;

    /** No line has this value, because the bits from the width on are 0. */
    private static final long UNREADABLE = -1L;

    private static final int RIGHT = 0;
    private static final int LOST = 1;
    private static final int NOT_READ = 2;
    private static final int READ_WRONG = 3;

    private static final int NO_SUCH_MODE = -9;

    private final Page page;
    private final History history;
    private final Page[] saved;
    private final Parser parser;
    private final Code code;
    private final Sending sending;
    private final byte[] written;
    private int writtenLength;

    public DotRuns() {
        page = new Page();
        history = new History();
        saved = new Page[SLOTS];
        parser = new Parser();
        code = new Code();
        sending = new Sending();
        written = new byte[MOST_OUTPUT];
        writtenLength = 0;
    }

    // ---- texts

    public int appendText(int fourBytes) throws IllegalStateException {
        if (parser.text.length + 4 > MOST_TEXT) {
            throw new IllegalStateException("the text would be too long");
        }
        parser.text.append(fourBytes >>> 24);
        parser.text.append(fourBytes >>> 16);
        parser.text.append(fourBytes >>> 8);
        parser.text.append(fourBytes);
        return parser.text.length;
    }

    public int truncateText(int length) throws IllegalArgumentException {
        if (length < 0 || length > parser.text.length) {
            throw new IllegalArgumentException("the text has no such length");
        }
        parser.text.length = length;
        return length;
    }

    public int load() {
        boolean good = parser.readText();
        parser.text.length = 0;
        if (!good) {
            return NONE;
        }
        page.copyFrom(parser.page);
        history.forget();
        return page.lines;
    }

    public int errorCode() {
        return parser.faultCode;
    }

    public int errorPosition() {
        return parser.faultPosition;
    }

    // ---- the page

    public int count(int what) throws IllegalArgumentException {
        if (what < 0 || what > 12) {
            throw new IllegalArgumentException("there is no such number");
        }
        if (what < SETTINGS) {
            return page.settings[what];
        }
        switch (what) {
            case 6:
                return page.width;
            case 7:
                return page.lines;
            case 8:
                return blackDots();
            case 9:
                return allChanges();
            case 10:
                return marks();
            case 11:
                return history.held;
            default:
                return linesAsAbove();
        }
    }

    public int dot(int line, int at) throws IndexOutOfBoundsException {
        needDot(line, at);
        return colourAt(page.rowAt(line), at);
    }

    public int line(int line, int what) throws IndexOutOfBoundsException, IllegalArgumentException {
        needLine(line);
        if (what < 0 || what > 11) {
            throw new IllegalArgumentException("there is no such number");
        }
        codeLine(line);
        switch (what) {
            case 0:
                return isMark(line) ? 1 : 0;
            case 1:
                return aloneBits(page.rowAt(line), page.width);
            case 2:
                return code.bits;
            case 3:
                return isMark(line) ? aloneBits(page.rowAt(line), page.width) : code.bits;
            case 4:
                return Long.bitCount(changesOf(page.rowAt(line), page.width)) + 1;
            case 5:
                return code.modes;
            case 6:
                return code.modesOfKind(PASS);
            case 7:
                return code.modesOfKind(VERTICAL);
            case 8:
                return code.modesOfKind(HORIZONTAL);
            case 9:
                return page.losses[line];
            case 10:
                return Long.bitCount(page.rowAt(line));
            default:
                return latestMark(line);
        }
    }

    public int run(int line, int index) throws IndexOutOfBoundsException {
        needPlace(line, index);
        return runAt(page.rowAt(line), page.width, index);
    }

    public int mode(int line, int index, int what) throws IndexOutOfBoundsException, IllegalArgumentException {
        needPlace(line, index);
        if (what < 0 || what > 3) {
            throw new IllegalArgumentException("there is no such number");
        }
        codeLine(line);
        return code.modeNumber(index, what);
    }

    public int change(int line, int index) throws IndexOutOfBoundsException {
        needPlace(line, index);
        return changeAt(changesOf(page.rowAt(line), page.width), index);
    }

    public int longest(int colour) throws IllegalArgumentException {
        needColour(colour);
        int most = 0;
        for (int line = 0; line < page.lines; line++) {
            most = Math.max(most, longestRun(page.rowAt(line), colour));
        }
        return most;
    }

    public int runsOf(int colour, int length) throws IllegalArgumentException {
        needColour(colour);
        if (length < 1 || length > MOST_WIDTH) {
            throw new IllegalArgumentException("no line has so many dots");
        }
        int found = 0;
        for (int line = 0; line < page.lines; line++) {
            found += runsJustOf(page.rowAt(line), colour, length);
        }
        return found;
    }

    public int readBelow(int line, int other) throws IndexOutOfBoundsException {
        needLine(line);
        if (other != NONE) {
            needLine(other);
        }
        codeLine(line);
        long row = code.readUnder(page.rowAt(other), page.width);
        return row == UNREADABLE ? NONE : Long.bitCount(row ^ page.rowAt(line));
    }

    // ---- edits

    public int set(int what, int value) throws IllegalArgumentException {
        if (!isSetting(what, value)) {
            throw new IllegalArgumentException("there is no such setting or value");
        }
        history.keep(page);
        int previous = page.settings[what];
        page.settings[what] = value;
        return previous;
    }

    public int lose(int line, int times) throws IndexOutOfBoundsException, IllegalArgumentException {
        if (line < 0 || line >= MOST_LINES) {
            throw new IndexOutOfBoundsException("there is no such line number");
        }
        if (times < 0 || times > MOST_TIMES) {
            throw new IllegalArgumentException("so many sendings cannot be lost");
        }
        history.keep(page);
        int previous = page.losses[line];
        page.losses[line] = times;
        return previous;
    }

    public int addLine(int from, int to) throws IllegalArgumentException, IllegalStateException {
        needSpan(from, to);
        needRoom();
        history.keep(page);
        page.insertRow(page.lines, span(from, to));
        return page.lines - 1;
    }

    public int paint(int line, int from, int to, int colour)
            throws IndexOutOfBoundsException, IllegalArgumentException {
        needLine(line);
        needSpan(from, to);
        needColour(colour);
        history.keep(page);
        long before = page.rowAt(line);
        long after = colour == 1 ? before | span(from, to) : before & ~span(from, to);
        page.putRow(line, after);
        return Long.bitCount(before ^ after);
    }

    public int shift(int line, int by) throws IndexOutOfBoundsException, IllegalArgumentException {
        needLine(line);
        if (by < -MOST_WIDTH || by > MOST_WIDTH) {
            throw new IllegalArgumentException("a line is not moved so far");
        }
        history.keep(page);
        long before = page.rowAt(line);
        page.putRow(line, by < 0 ? before >>> -by : before << by);
        return Long.bitCount(page.rowAt(line));
    }

    public int copyLine(int line, int to) throws IndexOutOfBoundsException, IllegalStateException {
        needLine(line);
        if (to < 0 || to > page.lines) {
            throw new IndexOutOfBoundsException("there is no such place");
        }
        needRoom();
        history.keep(page);
        page.insertRow(to, page.rowAt(line));
        return page.lines;
    }

    public int removeLine(int line) throws IndexOutOfBoundsException {
        needLine(line);
        history.keep(page);
        page.deleteRow(line);
        return page.lines;
    }

    public int invert(int line) throws IndexOutOfBoundsException {
        needLine(line);
        history.keep(page);
        page.putRow(line, ~page.rowAt(line));
        return Long.bitCount(page.rowAt(line));
    }

    public int swap(int one, int other) throws IndexOutOfBoundsException {
        needLine(one);
        needLine(other);
        history.keep(page);
        long first = page.rowAt(one);
        long second = page.rowAt(other);
        page.putRow(one, second);
        page.putRow(other, first);
        return Long.bitCount(first ^ second);
    }

    // ---- what comes of sending the page (nothing changes)

    public int sent(int what) throws IllegalArgumentException {
        if (what < 0 || what > 9) {
            throw new IllegalArgumentException("there is no such number");
        }
        sending.prepare(page);
        sending.sendPage(page);
        switch (what) {
            case 0:
                return sending.bits;
            case 1:
                return sending.sendings;
            case 2:
                return sending.stepsBack;
            case 7:
                return sending.wrongDots(page);
            case 8:
                return sending.lostSendings;
            case 9:
                return sending.unreadSendings;
            default:
                return sending.linesOfState(what - 3, page.lines);
        }
    }

    public int sentLine(int line, int what) throws IndexOutOfBoundsException, IllegalArgumentException {
        needLine(line);
        if (what < 0 || what > 4) {
            throw new IllegalArgumentException("there is no such number");
        }
        sending.prepare(page);
        sending.sendPage(page);
        switch (what) {
            case 0:
                return sending.states[line];
            case 1:
                return sending.timesSent[line];
            case 2:
                return sending.bitsOfLine[line];
            case 3:
                return sending.wrongDotsOf(line, page);
            default:
                return sending.stepsBackOf[line];
        }
    }

    public int received(int line, int at) throws IndexOutOfBoundsException {
        needDot(line, at);
        sending.prepare(page);
        sending.sendPage(page);
        return colourAt(sending.rows[line], at);
    }

    public int harm(int line, int what) throws IndexOutOfBoundsException, IllegalArgumentException {
        needLine(line);
        if (what < 0 || what > 2) {
            throw new IllegalArgumentException("there is no such number");
        }
        sending.prepare(page);
        sending.loseOnly(line);
        sending.sendPage(page);
        if (what == 0) {
            return sending.wrongLines(page);
        }
        return what == 1 ? sending.wrongDots(page) : sending.lastWrongLine(page);
    }

    public int worst() {
        sending.prepare(page);
        int worstLine = NONE;
        int most = NONE;
        for (int line = 0; line < page.lines; line++) {
            sending.loseOnly(line);
            sending.sendPage(page);
            int harmed = sending.wrongDots(page);
            if (harmed > most) {
                most = harmed;
                worstLine = line;
            }
        }
        return worstLine;
    }

    public int bestEvery() {
        sending.prepare(page);
        int best = NONE;
        int leastWrong = 0;
        int leastBits = 0;
        for (int every = LEAST_SETTINGS[EVERY]; every <= MOST_SETTINGS[EVERY]; every++) {
            sending.every = every;
            sending.sendPage(page);
            int wrong = sending.wrongDots(page);
            if (best == NONE || wrong < leastWrong || wrong == leastWrong && sending.bits < leastBits) {
                best = every;
                leastWrong = wrong;
                leastBits = sending.bits;
            }
        }
        return best;
    }

    public int needsSteps() {
        sending.prepare(page);
        for (int steps = LEAST_SETTINGS[STEPS]; steps <= MOST_SETTINGS[STEPS]; steps++) {
            sending.steps = steps;
            sending.sendPage(page);
            if (sending.wrongDots(page) == 0) {
                return steps;
            }
        }
        return NONE;
    }

    public double perDot() {
        int dots = page.lines * page.width;
        if (dots <= 0) {
            return 0.0;
        }
        sending.prepare(page);
        sending.sendPage(page);
        return (double) sending.bits / (double) dots;
    }

    public float byAbove() {
        if (page.lines <= 0) {
            return 0.0f;
        }
        return (float) (page.lines - marks()) / (float) page.lines;
    }

    // ---- output

    public int write(int line) throws IndexOutOfBoundsException {
        needLine(line);
        writtenLength = 0;
        if (isMark(line)) {
            writeAlone(page.rowAt(line));
        } else {
            codeLine(line);
            writeAbove();
        }
        return writtenLength;
    }

    public int show(int line) throws IndexOutOfBoundsException {
        needLine(line);
        sending.prepare(page);
        sending.sendPage(page);
        writtenLength = 0;
        for (int at = 0; at < page.width; at++) {
            putSign(colourAt(sending.rows[line], at) == 1 ? '#' : '.');
        }
        if (sending.states[line] != RIGHT) {
            putNumber(sending.states[line]);
        }
        return writtenLength;
    }

    public int output(int index) {
        return index >= 0 && index < writtenLength && index < written.length ? written[index] : NONE;
    }

    // ---- undo, saved states

    public int undo() {
        return history.takeBack(page) ? history.held : NONE;
    }

    public void save(int slot) throws IllegalArgumentException {
        needSlot(slot);
        if (saved[slot] == null) {
            saved[slot] = new Page();
        }
        saved[slot].copyFrom(page);
    }

    public void restore(int slot) throws IllegalArgumentException, IllegalStateException {
        needSlot(slot);
        if (saved[slot] == null) {
            throw new IllegalStateException("nothing is saved there");
        }
        page.copyFrom(saved[slot]);
        history.forget();
    }

    // ---- what calls need

    private void needLine(int line) {
        if (!page.hasLine(line)) {
            throw new IndexOutOfBoundsException("there is no such line");
        }
    }

    private void needDot(int line, int at) {
        if (!page.hasLine(line) || at < 0 || at >= page.width) {
            throw new IndexOutOfBoundsException("there is no such line or position");
        }
    }

    private void needPlace(int line, int index) {
        if (!page.hasLine(line) || index < 0) {
            throw new IndexOutOfBoundsException("there is no such line or place");
        }
    }

    private void needSpan(int from, int to) {
        if (from < 0 || from > page.width || to < from || to > page.width) {
            throw new IllegalArgumentException("the line has no such dots");
        }
    }

    private void needRoom() {
        if (page.lines >= MOST_LINES) {
            throw new IllegalStateException("the page is full");
        }
    }

    private static void needColour(int colour) {
        if (colour < 0 || colour > 1) {
            throw new IllegalArgumentException("there is no such colour");
        }
    }

    private static void needSlot(int slot) {
        if (slot < 0 || slot >= SLOTS) {
            throw new IllegalArgumentException("there is no such slot");
        }
    }

    // ---- numbers of the page

    private int blackDots() {
        int black = 0;
        for (int line = 0; line < page.lines; line++) {
            black += Long.bitCount(page.rowAt(line));
        }
        return black;
    }

    private int allChanges() {
        int changes = 0;
        for (int line = 0; line < page.lines; line++) {
            changes += Long.bitCount(changesOf(page.rowAt(line), page.width));
        }
        return changes;
    }

    private int linesAsAbove() {
        int found = 0;
        for (int line = 0; line < page.lines; line++) {
            if (page.rowAt(line) == page.rowAt(line - 1)) {
                found++;
            }
        }
        return found;
    }

    private int marks() {
        int found = 0;
        for (int line = 0; line < page.lines; line++) {
            if (isMark(line)) {
                found++;
            }
        }
        return found;
    }

    private boolean isMark(int line) {
        if (isEvery(line, page.settings[EVERY])) {
            return true;
        }
        if (page.settings[CHOOSE] == 0) {
            return false;
        }
        codeLine(line);
        return aloneBits(page.rowAt(line), page.width) < code.bits;
    }

    /** The line 0 is always a mark, so there is one. */
    private int latestMark(int line) {
        for (int mark = line; mark > 0; mark--) {
            if (isMark(mark)) {
                return mark;
            }
        }
        return 0;
    }

    private void codeLine(int line) {
        code.makeFor(page.rowAt(line), page.rowAt(line - 1), page.width);
    }

    private int longestRun(long row, int colour) {
        int runs = Long.bitCount(changesOf(row, page.width)) + 1;
        int most = 0;
        for (int index = colour; index < runs; index += 2) {
            most = Math.max(most, runAt(row, page.width, index));
        }
        return most;
    }

    private int runsJustOf(long row, int colour, int length) {
        int runs = Long.bitCount(changesOf(row, page.width)) + 1;
        int found = 0;
        for (int index = colour; index < runs; index += 2) {
            if (runAt(row, page.width, index) == length) {
                found++;
            }
        }
        return found;
    }

    // ---- lines as longs

    private static long allBlack(int width) {
        return (1L << width) - 1L;
    }

    /** Black from a position up to another one that is not less. */
    private static long span(int from, int to) {
        return (1L << to) - (1L << from);
    }

    private static int colourAt(long row, int at) {
        return (int) ((row >>> at) & 1L);
    }

    private static long changesOf(long row, int width) {
        return (row ^ (row << 1)) & allBlack(width);
    }

    /** The position of the lowest bit: so many bits are below it. */
    private static int lowestOf(long bits) {
        return Long.bitCount((bits & -bits) - 1L);
    }

    /** The first black dot behind a place from -1 on; the width without one. */
    private static int firstBehind(long row, int place, int width) {
        long behind = row & (-1L << (place + 1));
        return behind == 0L ? width : Long.bitCount((behind & -behind) - 1L);
    }

    private static int changeAt(long changes, int index) {
        long left = changes;
        for (int i = 0; i < index && left != 0L; i++) {
            left &= left - 1L;
        }
        return left == 0L ? NONE : lowestOf(left);
    }

    /** A run goes from one change to the next, the first one from 0, the last one up to the width. */
    private static int runAt(long row, int width, int index) {
        long changes = changesOf(row, width);
        if (index > Long.bitCount(changes)) {
            return NONE;
        }
        int from = index == 0 ? 0 : changeAt(changes, index - 1);
        int to = changeAt(changes, index);
        return (to == NONE ? width : to) - from;
    }

    private static int aloneBits(long row, int width) {
        long left = changesOf(row, width);
        int bits = 0;
        int from = 0;
        for (int i = 0; i < MOST_WIDTH && left != 0L; i++) {
            int to = lowestOf(left);
            bits += numberBits(to - from);
            from = to;
            left &= left - 1L;
        }
        return bits + numberBits(width - from);
    }

    private static int numberBits(int number) {
        return number < 8 ? 4 : 8;
    }

    private static boolean isEvery(int line, int every) {
        return every > 0 && line % every == 0;
    }

    private static boolean isSetting(int what, int value) {
        return what >= 0 && what < SETTINGS && value >= LEAST_SETTINGS[what] && value <= MOST_SETTINGS[what];
    }

    // ---- writing

    private void writeAlone(long row) {
        putWord("alone");
        int runs = Long.bitCount(changesOf(row, page.width)) + 1;
        for (int index = 0; index < runs; index++) {
            putSign(' ');
            putNumber(runAt(row, page.width, index));
        }
    }

    private void writeAbove() {
        putWord("above");
        for (int index = 0; index < code.modes; index++) {
            putSign(' ');
            writeMode(index);
        }
    }

    private void writeMode(int index) {
        int kind = code.modeNumber(index, 0);
        putSign(kind == PASS ? 'p' : kind == VERTICAL ? 'v' : 'h');
        if (kind != PASS) {
            putNumber(code.modeNumber(index, 1));
        }
        if (kind == HORIZONTAL) {
            putSign(' ');
            putNumber(code.modeNumber(index, 2));
        }
    }

    private void putWord(String word) {
        for (int i = 0; i < word.length(); i++) {
            putSign(word.charAt(i));
        }
    }

    /** No number of a code has more than two digits. */
    private void putNumber(int number) {
        int size = Math.abs(number);
        if (number < 0) {
            putSign('-');
        }
        if (size >= 10) {
            putSign((char) ('0' + size / 10));
        }
        putSign((char) ('0' + size % 10));
    }

    private void putSign(char sign) {
        if (writtenLength >= 0 && writtenLength < written.length) {
            written[writtenLength] = (byte) sign;
            writtenLength++;
        }
    }

    /** All that edits change, and that undo() and the saved states bring back. */
    private static final class Page {

        int width;
        int lines;
        final long[] rows;
        final int[] losses;
        final int[] settings;

        Page() {
            rows = new long[MOST_LINES];
            losses = new int[MOST_LINES];
            settings = new int[SETTINGS];
            width = FIRST_WIDTH;
            lines = 0;
            for (int what = 0; what < SETTINGS; what++) {
                settings[what] = FIRST_SETTINGS[what];
            }
        }

        void clear() {
            width = FIRST_WIDTH;
            lines = 0;
            for (int line = 0; line < MOST_LINES; line++) {
                rows[line] = 0L;
                losses[line] = 0;
            }
            for (int what = 0; what < SETTINGS; what++) {
                settings[what] = FIRST_SETTINGS[what];
            }
        }

        void copyFrom(Page other) {
            width = other.width;
            lines = other.lines;
            for (int line = 0; line < MOST_LINES; line++) {
                rows[line] = other.rows[line];
                losses[line] = other.losses[line];
            }
            for (int what = 0; what < SETTINGS; what++) {
                settings[what] = other.settings[what];
            }
        }

        boolean hasLine(int line) {
            return line >= 0 && line < lines && line < MOST_LINES;
        }

        long rowAt(int line) {
            return hasLine(line) ? rows[line] : 0L;
        }

        void putRow(int line, long row) {
            if (hasLine(line)) {
                rows[line] = row & allBlack(width);
            }
        }

        void insertRow(int to, long row) {
            if (lines >= MOST_LINES) {
                return;
            }
            for (int line = lines; line > to && line > 0; line--) {
                rows[line] = rows[line - 1];
            }
            lines++;
            putRow(to, row);
        }

        void deleteRow(int gone) {
            if (!hasLine(gone)) {
                return;
            }
            lines--;
            for (int line = gone; line < lines; line++) {
                rows[line] = rows[line + 1];
            }
        }
    }

    /** The pages as they were ahead of the latest edits, in a ring. */
    private static final class History {

        int held;
        private int next;
        private final Page[] pages;

        History() {
            held = 0;
            next = 0;
            pages = new Page[MOST_UNDO];
        }

        void keep(Page page) {
            if (next < 0 || next >= MOST_UNDO) {
                return;
            }
            if (pages[next] == null) {
                pages[next] = new Page();
            }
            pages[next].copyFrom(page);
            next = next + 1 < MOST_UNDO ? next + 1 : 0;
            held = Math.min(held + 1, MOST_UNDO);
        }

        boolean takeBack(Page page) {
            int latest = next > 0 ? next - 1 : MOST_UNDO - 1;
            if (held <= 0 || latest >= MOST_UNDO || pages[latest] == null) {
                return false;
            }
            page.copyFrom(pages[latest]);
            next = latest;
            held--;
            return true;
        }

        void forget() {
            held = 0;
        }
    }

    /**
     * The place and the colour that are led through a line by the line above. A text is read by it mode by mode,
     * and so is what the receiver gets.
     */
    private static final class Reading {

        int width;
        int place;
        boolean black;
        long row;
        int turn;
        int passed;
        private long above;
        private long changes;

        void begin(long lineAbove, int lineWidth) {
            width = lineWidth;
            place = -1;
            black = false;
            row = 0L;
            turn = lineWidth;
            passed = lineWidth;
            above = lineAbove;
            changes = changesOf(lineAbove, lineWidth);
        }

        boolean hasEnded() {
            return place >= width;
        }

        /** Finds B and D from the present place; whoever goes on by them looks first. */
        void look() {
            turn = firstBehind(changes & (black ? ~above : above), place, width);
            passed = firstBehind(changes, turn, width);
        }

        boolean pass() {
            return goTo(passed, black);
        }

        boolean goVertical(int by) {
            return goTo(turn + by, !black);
        }

        boolean goHorizontal(int first, int second) {
            int from = place < 0 ? 0 : place;
            int middle = from + first;
            int end = middle + second;
            if (end <= place || end > width) {
                return false;
            }
            row |= black ? span(from, middle) : span(middle, end);
            place = end;
            return true;
        }

        private boolean goTo(int end, boolean blackThen) {
            if (end <= place || end > width) {
                return false;
            }
            if (black) {
                row |= span(place < 0 ? 0 : place, end);
            }
            place = end;
            black = blackThen;
            return true;
        }
    }

    /** The code of a line by the line above. */
    private static final class Code {

        int modes;
        int bits;
        private final int[] kinds;
        private final int[] firsts;
        private final int[] seconds;
        private final int[] places;
        private final Reading reading;

        Code() {
            modes = 0;
            bits = 0;
            kinds = new int[MOST_MODES];
            firsts = new int[MOST_MODES];
            seconds = new int[MOST_MODES];
            places = new int[MOST_MODES];
            reading = new Reading();
        }

        void makeFor(long row, long above, int width) {
            modes = 0;
            bits = 0;
            reading.begin(above, width);
            for (int left = MOST_MODES; left > 0 && !reading.hasEnded(); left--) {
                reading.look();
                addMode(row, width);
            }
        }

        private void addMode(long row, int width) {
            long same = (reading.black ? row : ~row) & allBlack(width);
            long others = ~same & allBlack(width);
            int here = firstBehind(others, reading.place, width);
            int by = here - reading.turn;
            if (reading.passed < here) {
                putMode(PASS, 0, 0, reading.passed);
                bits += 4;
            } else if (by >= -3 && by <= 3) {
                putMode(VERTICAL, by, 0, here);
                bits += verticalBits(by);
                reading.black = !reading.black;
            } else {
                int first = here - (reading.place < 0 ? 0 : reading.place);
                int end = firstBehind(same, here, width);
                putMode(HORIZONTAL, first, end - here, end);
                bits += 3 + numberBits(first) + numberBits(end - here);
            }
        }

        private void putMode(int kind, int first, int second, int place) {
            reading.place = place;
            if (modes < 0 || modes >= MOST_MODES) {
                return;
            }
            kinds[modes] = kind;
            firsts[modes] = first;
            seconds[modes] = second;
            places[modes] = place;
            modes++;
        }

        private static int verticalBits(int by) {
            switch (Math.abs(by)) {
                case 0:
                    return 1;
                case 1:
                    return 3;
                case 2:
                    return 6;
                default:
                    return 7;
            }
        }

        int modesOfKind(int kind) {
            int found = 0;
            for (int index = 0; index < modes; index++) {
                if (kinds[index] == kind) {
                    found++;
                }
            }
            return found;
        }

        int modeNumber(int index, int what) {
            if (index < 0 || index >= modes) {
                return NO_SUCH_MODE;
            }
            switch (what) {
                case 0:
                    return kinds[index];
                case 1:
                    return firsts[index];
                case 2:
                    return seconds[index];
                default:
                    return places[index];
            }
        }

        long readUnder(long above, int width) {
            reading.begin(above, width);
            boolean good = true;
            for (int index = 0; index < modes && good; index++) {
                reading.look();
                if (reading.hasEnded()) {
                    good = false;
                } else if (kinds[index] == PASS) {
                    good = reading.pass();
                } else if (kinds[index] == VERTICAL) {
                    good = reading.goVertical(firsts[index]);
                } else {
                    good = reading.goHorizontal(firsts[index], seconds[index]);
                }
            }
            return good && reading.hasEnded() ? reading.row : UNREADABLE;
        }
    }

    /**
     * Sends a page: prepare() takes what the sending goes by from the page, so that every, steps and the losses
     * can be others than those of the page; sendPage() may then be called several times.
     */
    private static final class Sending {

        int every;
        int steps;
        int bits;
        int sendings;
        int stepsBack;
        int lostSendings;
        int unreadSendings;
        final long[] rows;
        final int[] states;
        final int[] timesSent;
        final int[] bitsOfLine;
        final int[] stepsBackOf;
        private final int[] losses;
        private final int[] bitsAlone;
        private final int[] bitsByAbove;
        private final Code code;

        Sending() {
            rows = new long[MOST_LINES];
            states = new int[MOST_LINES];
            timesSent = new int[MOST_LINES];
            bitsOfLine = new int[MOST_LINES];
            stepsBackOf = new int[MOST_LINES];
            losses = new int[MOST_LINES];
            bitsAlone = new int[MOST_LINES];
            bitsByAbove = new int[MOST_LINES];
            code = new Code();
        }

        void prepare(Page page) {
            every = page.settings[EVERY];
            steps = page.settings[STEPS];
            for (int line = 0; line < MOST_LINES; line++) {
                losses[line] = page.losses[line];
            }
            for (int line = 0; line < page.lines && line < MOST_LINES; line++) {
                code.makeFor(page.rowAt(line), page.rowAt(line - 1), page.width);
                bitsByAbove[line] = code.bits;
                bitsAlone[line] = aloneBits(page.rowAt(line), page.width);
            }
        }

        void loseOnly(int lost) {
            steps = 0;
            for (int line = 0; line < MOST_LINES; line++) {
                losses[line] = line == lost ? 1 : 0;
            }
        }

        void sendPage(Page page) {
            clear();
            int next = 0;
            for (int left = MOST_SENDINGS; left > 0 && page.hasLine(next); left--) {
                next = sendOne(page, next);
            }
        }

        private void clear() {
            bits = 0;
            sendings = 0;
            stepsBack = 0;
            lostSendings = 0;
            unreadSendings = 0;
            for (int line = 0; line < MOST_LINES; line++) {
                rows[line] = 0L;
                states[line] = RIGHT;
                timesSent[line] = 0;
                bitsOfLine[line] = 0;
                stepsBackOf[line] = 0;
            }
        }

        /** The number of the line that is sent next. */
        private int sendOne(Page page, int line) {
            boolean alone = isSentAlone(page, line);
            int cost = page.settings[HEAD] + (alone ? bitsAlone[line] : bitsByAbove[line]);
            sendings++;
            timesSent[line]++;
            bitsOfLine[line] += cost;
            bits += cost;
            boolean lost = timesSent[line] <= losses[line];
            long read = lost ? UNREADABLE : alone ? page.rowAt(line) : readByAbove(page, line);
            if (read != UNREADABLE) {
                rows[line] = read;
                states[line] = read == page.rowAt(line) ? RIGHT : READ_WRONG;
                return line + 1;
            }
            if (lost) {
                lostSendings++;
            } else {
                unreadSendings++;
            }
            if (stepsBack < steps) {
                return stepBack(page, line);
            }
            rows[line] = page.settings[FILL] == 0 ? rowAbove(line) : 0L;
            states[line] = lost ? LOST : NOT_READ;
            return line + 1;
        }

        private int stepBack(Page page, int line) {
            stepsBack++;
            stepsBackOf[line]++;
            bits += page.settings[ASK];
            int mark = line;
            while (mark > 0 && !isSentAlone(page, mark)) {
                mark--;
            }
            return mark;
        }

        private boolean isSentAlone(Page page, int line) {
            return isEvery(line, every) || page.settings[CHOOSE] == 1 && bitsAlone[line] < bitsByAbove[line];
        }

        private long rowAbove(int line) {
            return line > 0 && line <= MOST_LINES ? rows[line - 1] : 0L;
        }

        /** Below the very line by which it was made a code gives the line itself, so nothing need be read. */
        private long readByAbove(Page page, int line) {
            if (rowAbove(line) == page.rowAt(line - 1)) {
                return page.rowAt(line);
            }
            code.makeFor(page.rowAt(line), page.rowAt(line - 1), page.width);
            return code.readUnder(rowAbove(line), page.width);
        }

        int linesOfState(int state, int lines) {
            int found = 0;
            for (int line = 0; line < lines && line < MOST_LINES; line++) {
                if (states[line] == state) {
                    found++;
                }
            }
            return found;
        }

        int wrongDotsOf(int line, Page page) {
            return page.hasLine(line) ? Long.bitCount(rows[line] ^ page.rowAt(line)) : 0;
        }

        int wrongDots(Page page) {
            int wrong = 0;
            for (int line = 0; line < page.lines; line++) {
                wrong += wrongDotsOf(line, page);
            }
            return wrong;
        }

        int wrongLines(Page page) {
            int found = 0;
            for (int line = 0; line < page.lines; line++) {
                if (wrongDotsOf(line, page) > 0) {
                    found++;
                }
            }
            return found;
        }

        int lastWrongLine(Page page) {
            for (int line = page.lines - 1; line >= 0; line--) {
                if (wrongDotsOf(line, page) > 0) {
                    return line;
                }
            }
            return NONE;
        }
    }

    /** The text buffer, and the token of it that is looked at. */
    private static final class Tokens {

        static final int END = 0;
        static final int WORD = 1;
        static final int NUMBER = 2;
        static final int ROW = 3;
        static final int MINUS = 4;
        static final int SEMICOLON = 5;
        static final int STRANGE = 6;

        /** Far above every range, and far below what an int holds. */
        private static final int TOO_MUCH = 1000;

        int length;
        int kind;
        int start;
        private int end;
        private final byte[] bytes;

        Tokens() {
            length = 0;
            bytes = new byte[MOST_TEXT];
        }

        void append(int value) {
            if (length >= 0 && length < MOST_TEXT) {
                bytes[length] = (byte) value;
                length++;
            }
        }

        void begin() {
            end = 0;
            next();
        }

        void next() {
            start = end;
            while (start < length && isSpace(byteAt(start))) {
                start++;
            }
            kind = kindOf(byteAt(start));
            end = kind == END ? start : start + 1;
            if (kind == WORD || kind == NUMBER || kind == ROW) {
                while (end < length && kindOf(byteAt(end)) == kind) {
                    end++;
                }
            }
        }

        private int byteAt(int index) {
            return index >= 0 && index < length && index < MOST_TEXT ? bytes[index] & 255 : NONE;
        }

        private static boolean isSpace(int sign) {
            return sign == 32 || sign == 10;
        }

        private static int kindOf(int sign) {
            if (sign == NONE) {
                return END;
            }
            if (sign >= 'a' && sign <= 'z') {
                return WORD;
            }
            if (sign >= '0' && sign <= '9') {
                return NUMBER;
            }
            if (sign == '.' || sign == '#') {
                return ROW;
            }
            return sign == '-' ? MINUS : sign == ';' ? SEMICOLON : STRANGE;
        }

        boolean isWord(String word) {
            if (kind != WORD || end - start != word.length()) {
                return false;
            }
            for (int i = 0; i < word.length(); i++) {
                if (byteAt(start + i) != word.charAt(i)) {
                    return false;
                }
            }
            return true;
        }

        int number() {
            int value = 0;
            for (int index = start; index < end; index++) {
                value = Math.min(TOO_MUCH, value * 10 + byteAt(index) - '0');
            }
            return value;
        }

        int signs() {
            return end - start;
        }

        long dots() {
            long row = 0L;
            for (int i = 0; i < end - start && i < MOST_WIDTH; i++) {
                if (byteAt(start + i) == '#') {
                    row |= 1L << i;
                }
            }
            return row;
        }
    }

    /** Reads a text into a page of its own, so that a text with an error changes nothing. */
    private static final class Parser {

        private static final int NOT_ALLOWED = 1;
        private static final int OUT_OF_RANGE = 2;
        private static final int WRONG_WIDTH = 3;
        private static final int NOT_TO_BE_READ = 4;
        private static final int TOO_MANY_LINES = 5;

        int faultCode;
        int faultPosition;
        final Tokens text;
        final Page page;
        private final Reading reading;

        Parser() {
            faultCode = 0;
            faultPosition = NONE;
            text = new Tokens();
            page = new Page();
            reading = new Reading();
        }

        boolean readText() {
            faultCode = 0;
            faultPosition = NONE;
            page.clear();
            text.begin();
            boolean good = !text.isWord("wide") || readWide();
            for (int left = text.length; left > 0 && good && text.kind != Tokens.END; left--) {
                good = readStatement();
            }
            return good;
        }

        private boolean failHere(int code) {
            faultCode = code;
            faultPosition = text.start;
            return false;
        }

        /** A mode that leads to a place that is not allowed is known only behind its numbers. */
        private boolean needRead(boolean good, int position) {
            if (!good) {
                faultCode = NOT_TO_BE_READ;
                faultPosition = position;
            }
            return good;
        }

        /** The token must be a number of this range; it stays the one that is looked at. */
        private boolean needNumber(int least, int most) {
            if (text.kind != Tokens.NUMBER) {
                return failHere(NOT_ALLOWED);
            }
            int number = text.number();
            return number >= least && number <= most || failHere(OUT_OF_RANGE);
        }

        private boolean readSemicolon() {
            if (text.kind != Tokens.SEMICOLON) {
                return failHere(NOT_ALLOWED);
            }
            text.next();
            return true;
        }

        private boolean readWide() {
            text.next();
            if (!needNumber(LEAST_WIDTH, MOST_WIDTH)) {
                return false;
            }
            page.width = text.number();
            text.next();
            return readSemicolon();
        }

        private boolean readStatement() {
            if (text.isWord("set")) {
                return readSet();
            }
            if (text.isWord("loss")) {
                return readLoss();
            }
            boolean asRow = text.isWord("line");
            boolean alone = text.isWord("alone");
            if (!asRow && !alone && !text.isWord("above")) {
                return failHere(NOT_ALLOWED);
            }
            if (page.lines >= MOST_LINES) {
                return failHere(TOO_MANY_LINES);
            }
            text.next();
            return asRow ? readRow() : alone ? readAlone() : readAbove();
        }

        private boolean readSet() {
            text.next();
            if (!needNumber(0, SETTINGS - 1)) {
                return false;
            }
            int what = text.number();
            text.next();
            if (what < 0 || what >= SETTINGS || !needNumber(LEAST_SETTINGS[what], MOST_SETTINGS[what])) {
                return false;
            }
            page.settings[what] = text.number();
            text.next();
            return readSemicolon();
        }

        private boolean readLoss() {
            text.next();
            if (!needNumber(0, MOST_LINES - 1)) {
                return false;
            }
            int line = text.number();
            text.next();
            if (line < 0 || line >= MOST_LINES || !needNumber(0, MOST_TIMES)) {
                return false;
            }
            page.losses[line] = text.number();
            text.next();
            return readSemicolon();
        }

        private boolean readRow() {
            if (text.kind != Tokens.ROW) {
                return failHere(NOT_ALLOWED);
            }
            if (text.signs() != page.width) {
                return failHere(WRONG_WIDTH);
            }
            page.insertRow(page.lines, text.dots());
            text.next();
            return readSemicolon();
        }

        private boolean readAlone() {
            long row = 0L;
            int from = 0;
            boolean black = false;
            int least = 0;
            if (!needNumber(0, page.width)) {
                return false;
            }
            for (int left = text.length; left > 0 && text.kind == Tokens.NUMBER; left--) {
                if (!needNumber(least, page.width)) {
                    return false;
                }
                int to = from + text.number();
                if (to > page.width) {
                    return failHere(NOT_TO_BE_READ);
                }
                row |= black ? span(from, to) : 0L;
                from = to;
                black = !black;
                least = 1;
                text.next();
            }
            return endCode(from == page.width, row);
        }

        private boolean readAbove() {
            reading.begin(page.rowAt(page.lines - 1), page.width);
            boolean good = true;
            for (int left = text.length; left > 0 && good && text.kind == Tokens.WORD; left--) {
                reading.look();
                if (text.isWord("p")) {
                    good = readPass();
                } else if (text.isWord("v")) {
                    good = readVertical();
                } else if (text.isWord("h")) {
                    good = readHorizontal();
                } else {
                    good = failHere(NOT_ALLOWED);
                }
            }
            return good && endCode(reading.hasEnded(), reading.row);
        }

        private boolean endCode(boolean complete, long row) {
            if (text.kind != Tokens.SEMICOLON) {
                return failHere(NOT_ALLOWED);
            }
            if (!complete) {
                return failHere(WRONG_WIDTH);
            }
            page.insertRow(page.lines, row);
            text.next();
            return true;
        }

        private boolean readPass() {
            if (reading.hasEnded()) {
                return failHere(NOT_TO_BE_READ);
            }
            int position = text.start;
            text.next();
            return needRead(reading.pass(), position);
        }

        private boolean readVertical() {
            if (reading.hasEnded()) {
                return failHere(NOT_TO_BE_READ);
            }
            int position = text.start;
            text.next();
            boolean minus = text.kind == Tokens.MINUS;
            if (minus) {
                text.next();
            }
            if (!needNumber(0, 3)) {
                return false;
            }
            int by = minus ? -text.number() : text.number();
            text.next();
            return needRead(reading.goVertical(by), position);
        }

        private boolean readHorizontal() {
            if (reading.hasEnded()) {
                return failHere(NOT_TO_BE_READ);
            }
            int position = text.start;
            text.next();
            if (!needNumber(0, page.width)) {
                return false;
            }
            int first = text.number();
            text.next();
            if (!needNumber(0, page.width)) {
                return false;
            }
            int second = text.number();
            text.next();
            return needRead(reading.goHorizontal(first, second), position);
        }
    }
}
