import java.util.ArrayDeque;
import java.util.ArrayList;
import java.util.Arrays;
import java.util.List;

/**
 * The document told a second time, dot by dot and as plainly as can be, for ModelTest to compare with. It shares no
 * code and no way of holding lines with DotRuns.
 */
final class Model {

    static final class State {
        int width = 16;
        List<int[]> lines = new ArrayList<>();
        int[] loss = new int[20];
        int[] settings = {4, 0, 0, 0, 8, 16};

        State copy() {
            State s = new State();
            s.width = width;
            for (int[] line : lines) {
                s.lines.add(line.clone());
            }
            s.loss = loss.clone();
            s.settings = settings.clone();
            return s;
        }

        int[] above(int line) {
            return line == 0 ? new int[width] : lines.get(line - 1);
        }
    }

    /** An error of a text. */
    static final class Fault extends RuntimeException {
        final int code;
        final int position;

        Fault(int code, int position) {
            this.code = code;
            this.position = position;
        }
    }

    State s = new State();
    final ArrayDeque<State> back = new ArrayDeque<>();
    final State[] slots = new State[2];
    StringBuilder text = new StringBuilder();
    int faultCode = 0;
    int faultPosition = -1;
    String out = "";

    static final int[] LEAST = {1, 0, 0, 0, 0, 0};
    static final int[] MOST = {8, 1, 1, 9, 99, 99};

    // ---- codes

    static List<Integer> changes(int[] line) {
        List<Integer> found = new ArrayList<>();
        for (int i = 0; i < line.length; i++) {
            if (line[i] != (i == 0 ? 0 : line[i - 1])) {
                found.add(i);
            }
        }
        return found;
    }

    static List<Integer> alone(int[] line) {
        List<Integer> runs = new ArrayList<>();
        int colour = 0;
        int at = 0;
        while (at < line.length) {
            int size = 0;
            while (at < line.length && line[at] == colour) {
                size++;
                at++;
            }
            runs.add(size);
            colour = 1 - colour;
        }
        return runs;
    }

    static int bitsOf(int number) {
        return number < 8 ? 4 : 8;
    }

    static int aloneBits(int[] line) {
        int bits = 0;
        for (int n : alone(line)) {
            bits += bitsOf(n);
        }
        return bits;
    }

    static int placeB(int[] above, int a, int c) {
        for (int change : changes(above)) {
            if (change > a && above[change] != c) {
                return change;
            }
        }
        return above.length;
    }

    static int placeD(int[] above, int b) {
        for (int change : changes(above)) {
            if (change > b) {
                return change;
            }
        }
        return above.length;
    }

    /** Modes as {kind, first, second, a behind}. */
    static List<int[]> above(int[] line, int[] above) {
        int w = line.length;
        List<int[]> modes = new ArrayList<>();
        int a = -1;
        int c = 0;
        while (a != w) {
            int placeA = a + 1;
            while (placeA < w && line[placeA] == c) {
                placeA++;
            }
            int b = placeB(above, a, c);
            int d = placeD(above, b);
            if (d < placeA) {
                a = d;
                modes.add(new int[] {0, 0, 0, a});
            } else if (Math.abs(placeA - b) <= 3) {
                a = placeA;
                c = 1 - c;
                modes.add(new int[] {1, placeA - b, 0, a});
            } else {
                int e = placeA + 1;
                while (e < w && line[e] != c) {
                    e++;
                }
                e = Math.min(e, w);
                modes.add(new int[] {2, placeA - Math.max(a, 0), e - placeA, e});
                a = e;
            }
        }
        return modes;
    }

    static int modeBits(int[] mode) {
        if (mode[0] == 0) {
            return 4;
        }
        if (mode[0] == 1) {
            return new int[] {1, 3, 6, 7}[Math.abs(mode[1])];
        }
        return 3 + bitsOf(mode[1]) + bitsOf(mode[2]);
    }

    static int aboveBits(int[] line, int[] above) {
        int bits = 0;
        for (int[] mode : above(line, above)) {
            bits += modeBits(mode);
        }
        return bits;
    }

    /** Reads one mode onto the line; at is {a, c}. False if it leads to a place that is not allowed. */
    static boolean readMode(int[] mode, int[] above, int[] line, int[] at) {
        int w = line.length;
        int a = at[0];
        int c = at[1];
        if (a == w) {
            return false;
        }
        int b = placeB(above, a, c);
        int middle;
        int end;
        if (mode[0] == 0) {
            middle = placeD(above, b);
            end = middle;
        } else if (mode[0] == 1) {
            middle = b + mode[1];
            end = middle;
            at[1] = 1 - c;
        } else {
            middle = Math.max(a, 0) + mode[1];
            end = middle + mode[2];
        }
        if (end <= a || end > w) {
            return false;
        }
        for (int i = Math.max(a, 0); i < end; i++) {
            line[i] = i < middle ? c : 1 - c;
        }
        at[0] = end;
        return true;
    }

    static int[] read(List<int[]> modes, int[] above) {
        int[] line = new int[above.length];
        int[] at = {-1, 0};
        for (int[] mode : modes) {
            if (!readMode(mode, above, line, at)) {
                return null;
            }
        }
        return at[0] == line.length ? line : null;
    }

    static int wrong(int[] one, int[] other) {
        int n = 0;
        for (int i = 0; i < one.length; i++) {
            n += one[i] == other[i] ? 0 : 1;
        }
        return n;
    }

    static boolean isMark(State s, int line) {
        return line % s.settings[0] == 0
            || s.settings[1] == 1 && aloneBits(s.lines.get(line)) < aboveBits(s.lines.get(line), s.above(line));
    }

    // ---- sending

    static final class Sent {
        final State s;
        final int[][] has;
        final int[] state;
        final int[] times;
        final int[] lineBits;
        final int[] steps;
        int bits;
        int lost;
        int unread;
        int stepped;
        int sendings;

        Sent(State s) {
            this.s = s;
            int n = s.lines.size();
            has = new int[n][];
            state = new int[n];
            times = new int[n];
            lineBits = new int[n];
            steps = new int[n];
            int line = 0;
            while (line < n) {
                line = one(line);
            }
        }

        private int one(int line) {
            int[] dots = s.lines.get(line);
            int[] received = line == 0 ? new int[s.width] : has[line - 1];
            boolean mark = isMark(s, line);
            int cost = s.settings[4] + (mark ? aloneBits(dots) : aboveBits(dots, s.above(line)));
            bits += cost;
            lineBits[line] += cost;
            sendings++;
            times[line]++;
            int[] got = null;
            boolean isLost = times[line] <= s.loss[line];
            if (isLost) {
                lost++;
            } else {
                got = mark ? dots.clone() : read(above(dots, s.above(line)), received);
                unread += got == null ? 1 : 0;
            }
            if (got != null) {
                has[line] = got;
                state[line] = Arrays.equals(got, dots) ? 0 : 3;
                return line + 1;
            }
            if (stepped < s.settings[3]) {
                stepped++;
                steps[line]++;
                bits += s.settings[5];
                while (!isMark(s, line)) {
                    line--;
                }
                return line;
            }
            has[line] = s.settings[2] == 0 ? received.clone() : new int[s.width];
            state[line] = isLost ? 1 : 2;
            return line + 1;
        }

        int wrongDots() {
            int n = 0;
            for (int i = 0; i < has.length; i++) {
                n += wrong(has[i], s.lines.get(i));
            }
            return n;
        }
    }

    // ---- the face

    private void line(int line) {
        if (line < 0 || line >= s.lines.size()) {
            throw new IndexOutOfBoundsException();
        }
    }

    private static void in(int value, int least, int most) {
        if (value < least || value > most) {
            throw new IllegalArgumentException();
        }
    }

    private static void index(boolean good) {
        if (!good) {
            throw new IndexOutOfBoundsException();
        }
    }

    private void edit() {
        back.addLast(s.copy());
        if (back.size() > 10) {
            back.removeFirst();
        }
    }

    int appendText(int four) {
        if (text.length() + 4 > 900) {
            throw new IllegalStateException();
        }
        for (int shift = 24; shift >= 0; shift -= 8) {
            text.append((char) (four >> shift & 255));
        }
        return text.length();
    }

    int truncateText(int length) {
        in(length, 0, text.length());
        text.setLength(length);
        return length;
    }

    int load() {
        String all = text.toString();
        text = new StringBuilder();
        faultCode = 0;
        faultPosition = -1;
        try {
            s = new Reader(all).page();
        } catch (Fault f) {
            faultCode = f.code;
            faultPosition = f.position;
            return -1;
        }
        back.clear();
        return s.lines.size();
    }

    int count(int what) {
        in(what, 0, 12);
        if (what < 6) {
            return s.settings[what];
        }
        int black = 0;
        int changed = 0;
        int marks = 0;
        int same = 0;
        for (int i = 0; i < s.lines.size(); i++) {
            for (int dot : s.lines.get(i)) {
                black += dot;
            }
            changed += changes(s.lines.get(i)).size();
            marks += isMark(s, i) ? 1 : 0;
            same += Arrays.equals(s.lines.get(i), s.above(i)) ? 1 : 0;
        }
        return new int[] {s.width, s.lines.size(), black, changed, marks, back.size(), same}[what - 6];
    }

    int dot(int line, int at) {
        line(line);
        index(at >= 0 && at < s.width);
        return s.lines.get(line)[at];
    }

    int line(int line, int what) {
        line(line);
        in(what, 0, 11);
        int[] dots = s.lines.get(line);
        List<int[]> modes = above(dots, s.above(line));
        int[] kinds = new int[3];
        for (int[] mode : modes) {
            kinds[mode[0]]++;
        }
        int latest = line;
        while (!isMark(s, latest)) {
            latest--;
        }
        boolean mark = isMark(s, line);
        int alone = aloneBits(dots);
        int above = aboveBits(dots, s.above(line));
        int black = 0;
        for (int dot : dots) {
            black += dot;
        }
        return new int[] {mark ? 1 : 0, alone, above, mark ? alone : above, alone(dots).size(), modes.size(), kinds[0],
            kinds[1], kinds[2], s.loss[line], black, latest}[what];
    }

    int run(int line, int index) {
        line(line);
        index(index >= 0);
        List<Integer> runs = alone(s.lines.get(line));
        return index < runs.size() ? runs.get(index) : -1;
    }

    int mode(int line, int index, int what) {
        line(line);
        index(index >= 0);
        in(what, 0, 3);
        List<int[]> modes = above(s.lines.get(line), s.above(line));
        return index < modes.size() ? modes.get(index)[what] : -9;
    }

    int change(int line, int index) {
        line(line);
        index(index >= 0);
        List<Integer> found = changes(s.lines.get(line));
        return index < found.size() ? found.get(index) : -1;
    }

    /** Lengths of all rows of dots of a colour. */
    private List<Integer> rows(int colour) {
        List<Integer> found = new ArrayList<>();
        for (int[] line : s.lines) {
            StringBuilder signs = new StringBuilder();
            for (int dot : line) {
                signs.append(dot == colour ? 'x' : ' ');
            }
            for (String part : signs.toString().split(" ")) {
                if (!part.isEmpty()) {
                    found.add(part.length());
                }
            }
        }
        return found;
    }

    int longest(int colour) {
        in(colour, 0, 1);
        int most = 0;
        for (int length : rows(colour)) {
            most = Math.max(most, length);
        }
        return most;
    }

    int runsOf(int colour, int length) {
        in(colour, 0, 1);
        in(length, 1, 40);
        int n = 0;
        for (int row : rows(colour)) {
            n += row == length ? 1 : 0;
        }
        return n;
    }

    int readBelow(int line, int other) {
        line(line);
        index(other >= -1 && other < s.lines.size());
        int[] dots = s.lines.get(line);
        int[] got = read(above(dots, s.above(line)), other == -1 ? new int[s.width] : s.lines.get(other));
        return got == null ? -1 : wrong(got, dots);
    }

    int set(int what, int value) {
        in(what, 0, 5);
        in(value, LEAST[what], MOST[what]);
        edit();
        int old = s.settings[what];
        s.settings[what] = value;
        return old;
    }

    int lose(int line, int times) {
        index(line >= 0 && line <= 19);
        in(times, 0, 5);
        edit();
        int old = s.loss[line];
        s.loss[line] = times;
        return old;
    }

    int addLine(int from, int to) {
        in(from, 0, s.width);
        in(to, from, s.width);
        if (s.lines.size() == 20) {
            throw new IllegalStateException();
        }
        edit();
        int[] dots = new int[s.width];
        Arrays.fill(dots, from, to, 1);
        s.lines.add(dots);
        return s.lines.size() - 1;
    }

    int paint(int line, int from, int to, int colour) {
        line(line);
        in(from, 0, s.width);
        in(to, from, s.width);
        in(colour, 0, 1);
        edit();
        int n = 0;
        for (int i = from; i < to; i++) {
            n += s.lines.get(line)[i] == colour ? 0 : 1;
            s.lines.get(line)[i] = colour;
        }
        return n;
    }

    int shift(int line, int by) {
        line(line);
        in(by, -40, 40);
        edit();
        int[] moved = new int[s.width];
        int black = 0;
        for (int i = 0; i < s.width; i++) {
            if (i - by >= 0 && i - by < s.width) {
                moved[i] = s.lines.get(line)[i - by];
                black += moved[i];
            }
        }
        s.lines.set(line, moved);
        return black;
    }

    int copyLine(int line, int to) {
        line(line);
        index(to >= 0 && to <= s.lines.size());
        if (s.lines.size() == 20) {
            throw new IllegalStateException();
        }
        edit();
        s.lines.add(to, s.lines.get(line).clone());
        return s.lines.size();
    }

    int removeLine(int line) {
        line(line);
        edit();
        s.lines.remove(line);
        return s.lines.size();
    }

    int invert(int line) {
        line(line);
        edit();
        int black = 0;
        for (int i = 0; i < s.width; i++) {
            s.lines.get(line)[i] ^= 1;
            black += s.lines.get(line)[i];
        }
        return black;
    }

    int swap(int one, int other) {
        line(one);
        line(other);
        edit();
        int n = wrong(s.lines.get(one), s.lines.get(other));
        int[] kept = s.lines.get(one);
        s.lines.set(one, s.lines.get(other));
        s.lines.set(other, kept);
        return n;
    }

    int sent(int what) {
        in(what, 0, 9);
        Sent x = new Sent(s);
        int[] states = new int[4];
        for (int state : x.state) {
            states[state]++;
        }
        return new int[] {x.bits, x.sendings, x.stepped, states[0], states[1], states[2], states[3], x.wrongDots(),
            x.lost, x.unread}[what];
    }

    int sentLine(int line, int what) {
        line(line);
        in(what, 0, 4);
        Sent x = new Sent(s);
        return new int[] {x.state[line], x.times[line], x.lineBits[line], wrong(x.has[line], s.lines.get(line)),
            x.steps[line]}[what];
    }

    int received(int line, int at) {
        line(line);
        index(at >= 0 && at < s.width);
        return new Sent(s).has[line][at];
    }

    int harm(int line, int what) {
        line(line);
        in(what, 0, 2);
        State other = s.copy();
        other.loss = new int[20];
        other.loss[line] = 1;
        other.settings[3] = 0;
        Sent x = new Sent(other);
        int lines = 0;
        int last = -1;
        for (int i = 0; i < x.has.length; i++) {
            if (wrong(x.has[i], s.lines.get(i)) > 0) {
                lines++;
                last = i;
            }
        }
        return new int[] {lines, x.wrongDots(), last}[what];
    }

    int worst() {
        int best = -1;
        for (int i = s.lines.size() - 1; i >= 0; i--) {
            if (best == -1 || harm(i, 1) >= harm(best, 1)) {
                best = i;
            }
        }
        return best;
    }

    int bestEvery() {
        int best = 0;
        long least = Long.MAX_VALUE;
        for (int every = 1; every <= 8; every++) {
            State other = s.copy();
            other.settings[0] = every;
            Sent x = new Sent(other);
            long key = x.wrongDots() * 1000000L + x.bits;
            if (key < least) {
                least = key;
                best = every;
            }
        }
        return best;
    }

    int needsSteps() {
        for (int steps = 0; steps <= 9; steps++) {
            State other = s.copy();
            other.settings[3] = steps;
            if (new Sent(other).wrongDots() == 0) {
                return steps;
            }
        }
        return -1;
    }

    double perDot() {
        return s.lines.isEmpty() ? 0.0 : (double) new Sent(s).bits / (double) (s.lines.size() * s.width);
    }

    float byAbove() {
        return s.lines.isEmpty() ? 0 : (float) (s.lines.size() - count(10)) / (float) s.lines.size();
    }

    int write(int line) {
        line(line);
        StringBuilder b = new StringBuilder();
        if (isMark(s, line)) {
            b.append("alone");
            for (int n : alone(s.lines.get(line))) {
                b.append(" ").append(n);
            }
        } else {
            b.append("above");
            for (int[] m : above(s.lines.get(line), s.above(line))) {
                b.append(m[0] == 0 ? " p" : m[0] == 1 ? " v" + m[1] : " h" + m[1] + " " + m[2]);
            }
        }
        out = b.toString();
        return out.length();
    }

    int show(int line) {
        line(line);
        Sent x = new Sent(s);
        StringBuilder b = new StringBuilder();
        for (int dot : x.has[line]) {
            b.append(dot == 0 ? "." : "#");
        }
        out = b + (x.state[line] == 0 ? "" : "" + x.state[line]);
        return out.length();
    }

    int output(int index) {
        return index < 0 || index >= out.length() ? -1 : out.charAt(index);
    }

    int undo() {
        if (back.isEmpty()) {
            return -1;
        }
        s = back.removeLast();
        return back.size();
    }

    void save(int slot) {
        in(slot, 0, 1);
        slots[slot] = s.copy();
    }

    void restore(int slot) {
        in(slot, 0, 1);
        if (slots[slot] == null) {
            throw new IllegalStateException();
        }
        s = slots[slot].copy();
        back.clear();
    }

    // ---- texts

    /** Cuts a text into tokens first, and then reads these. */
    static final class Reader {
        final String text;
        final List<int[]> tokens = new ArrayList<>();
        int next = 0;
        final State page = new State();

        Reader(String text) {
            this.text = text;
            int at = 0;
            while (at < text.length()) {
                char sign = text.charAt(at);
                int end = at + 1;
                if (sign == ' ' || sign == '\n') {
                    at = end;
                    continue;
                }
                String kind = kind(sign);
                while (kind != null && end < text.length() && kind.indexOf(text.charAt(end)) >= 0) {
                    end++;
                }
                tokens.add(new int[] {at, end});
                at = end;
            }
        }

        private static String kind(char sign) {
            for (String kind : new String[] {"abcdefghijklmnopqrstuvwxyz", "0123456789", ".#"}) {
                if (kind.indexOf(sign) >= 0) {
                    return kind;
                }
            }
            return null;
        }

        String peek() {
            return next < tokens.size() ? text.substring(tokens.get(next)[0], tokens.get(next)[1]) : "";
        }

        int position() {
            return next < tokens.size() ? tokens.get(next)[0] : text.length();
        }

        Fault fault(int code) {
            return new Fault(code, position());
        }

        boolean take(String token) {
            if (!peek().equals(token)) {
                return false;
            }
            next++;
            return true;
        }

        void must(String token) {
            if (!take(token)) {
                throw fault(1);
            }
        }

        int number(int least, int most) {
            String token = peek();
            if (!token.matches("[0-9]+")) {
                throw fault(1);
            }
            java.math.BigInteger n = new java.math.BigInteger(token);
            if (n.compareTo(java.math.BigInteger.valueOf(least)) < 0
                || n.compareTo(java.math.BigInteger.valueOf(most)) > 0) {
                throw fault(2);
            }
            next++;
            return n.intValue();
        }

        State page() {
            if (take("wide")) {
                page.width = number(8, 40);
                must(";");
            }
            while (next < tokens.size()) {
                statement();
            }
            return page;
        }

        private void statement() {
            String word = peek();
            if (page.lines.size() == 20 && (word.equals("line") || word.equals("alone") || word.equals("above"))) {
                throw fault(5);
            }
            if (take("line")) {
                row();
            } else if (take("alone")) {
                alone();
            } else if (take("above")) {
                above();
            } else if (take("set")) {
                int what = number(0, 5);
                page.settings[what] = number(LEAST[what], MOST[what]);
            } else if (take("loss")) {
                int line = number(0, 19);
                page.loss[line] = number(0, 5);
            } else {
                throw fault(1);
            }
            must(";");
        }

        private void row() {
            String row = peek();
            if (!row.matches("[.#]+")) {
                throw fault(1);
            }
            if (row.length() != page.width) {
                throw fault(3);
            }
            int[] dots = new int[page.width];
            for (int i = 0; i < dots.length; i++) {
                dots[i] = row.charAt(i) == '#' ? 1 : 0;
            }
            page.lines.add(dots);
            next++;
        }

        private void alone() {
            int[] dots = new int[page.width];
            int at = 0;
            int colour = 0;
            boolean first = true;
            do {
                int position = position();
                int n = number(first ? 0 : 1, page.width);
                if (at + n > page.width) {
                    throw new Fault(4, position);
                }
                Arrays.fill(dots, at, at + n, colour);
                at += n;
                colour = 1 - colour;
                first = false;
            } while (peek().matches("[0-9]+"));
            if (peek().equals(";") && at < page.width) {
                throw fault(3);
            }
            page.lines.add(dots);
        }

        private void above() {
            int[] above = page.lines.isEmpty() ? new int[page.width] : page.lines.get(page.lines.size() - 1);
            int[] dots = new int[page.width];
            int[] at = {-1, 0};
            while (peek().matches("[pvh]")) {
                int position = position();
                if (at[0] == page.width) {
                    throw fault(4);
                }
                int[] mode = new int[3];
                if (take("v")) {
                    int sign = take("-") ? -1 : 1;
                    mode = new int[] {1, sign * number(0, 3), 0};
                } else if (take("h")) {
                    int first = number(0, page.width);
                    mode = new int[] {2, first, number(0, page.width)};
                } else {
                    must("p");
                }
                if (!readMode(mode, above, dots, at)) {
                    throw new Fault(4, position);
                }
            }
            if (peek().equals(";") && at[0] != page.width) {
                throw fault(3);
            }
            page.lines.add(dots);
        }
    }
}
