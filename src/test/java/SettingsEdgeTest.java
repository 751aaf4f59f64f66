/**
 * Each call of sending goes by all of the settings but those that it tells itself: "the page is sent with ...", "sent
 * with the other settings and LOSS as they are", "sent as it is otherwise". All values are worked out by hand.
 */
final class SettingsEdgeTest {

    /**
     * Bits alone 8, 12, 36, 8, 8; by the line above 1, 15 (h0 8), 40, 17 (p p p p v0), 1 (v0). Below any line but the
     * one above them, the codes of the lines 2, 3 and 4 cannot be read.
     */
    private static final String TEETH = "wide 8;set 0 8;alone 8;alone 0 8;line #.#.#.#.;alone 8;alone 8;";

    /** Three times alone 12 bits, by the line above 3. */
    private static final String SAME = "wide 8;set 0 8;line ..##....;line ..##....;line ..##....;";

    public static void main(String[] args) {
        costs();
        harmWithFillAndChooseAndEvery();
        worstWithFillAndChooseAndEvery();
        bestEveryWithChoose();
        bestEveryWithFill();
        bestEveryWithHead();
        bestEveryWithLossAndSteps();
        needsStepsWithFill();
        needsStepsWithAnyMarks();
        sentWithEachSetting();
        notReadOnlyBelowAFilledLine();
        Check.end("SettingsEdgeTest");
    }

    private static DotRuns with(String text, int every, int choose, int fill) {
        return Calls.loaded(text + "set 0 " + every + ";set 1 " + choose + ";set 2 " + fill + ";");
    }

    private static void costs() {
        DotRuns x = Calls.loaded(TEETH);
        int[] alone = {8, 12, 36, 8, 8};
        int[] above = {1, 15, 40, 17, 1};
        for (int line = 0; line < 5; line++) {
            Check.due("alone " + line, x.line(line, 1), alone[line]);
            Check.due("by the line above " + line, x.line(line, 2), above[line]);
        }
        for (int line = 2; line <= 4; line++) {
            for (int other = DotRuns.NONE; other < 5; other++) {
                boolean same = other == line - 1 || line == 4 && (other == 0 || other == 4 || other == DotRuns.NONE);
                Check.due(line + " below " + other, x.readBelow(line, other), same ? 0 : -1);
            }
        }
    }

    /** Lines, dots and the last line for the loss of each line. */
    private static void harmed(DotRuns x, int[]... want) {
        for (int line = 0; line < want.length; line++) {
            for (int what = 0; what < 3; what++) {
                Check.due("harm " + line + " " + what, x.harm(line, what), want[line][what]);
            }
        }
    }

    private static void harmWithFillAndChooseAndEvery() {
        int[] none = {0, 0, -1};
        harmed(with(TEETH, 8, 0, 0), none, new int[] {2, 12, 2}, new int[] {3, 20, 4}, new int[] {2, 8, 4}, none);
        harmed(with(TEETH, 8, 1, 0), none, new int[] {1, 8, 1}, new int[] {1, 4, 2}, new int[] {2, 8, 4}, none);
        harmed(with(TEETH, 8, 0, 1), none, new int[] {2, 12, 2}, new int[] {1, 4, 2}, none, none);
        harmed(with(TEETH, 8, 1, 1), none, new int[] {1, 8, 1}, new int[] {1, 4, 2}, none, none);
        harmed(with(TEETH, 1, 0, 0), none, new int[] {1, 8, 1}, new int[] {1, 4, 2}, new int[] {1, 4, 3}, none);
        harmed(with(TEETH, 3, 0, 0), none, new int[] {2, 12, 2}, new int[] {1, 4, 2}, new int[] {2, 8, 4}, none);
    }

    private static void worstWithFillAndChooseAndEvery() {
        Check.due("20 dots by the line 2", with(TEETH, 8, 0, 0).worst(), 2);
        Check.due("CHOOSE: 8 by the lines 1 and 3", with(TEETH, 8, 1, 0).worst(), 1);
        Check.due("FILL: 12 by the line 1", with(TEETH, 8, 0, 1).worst(), 1);
        Check.due("EVERY 1: 8 by the line 1", with(TEETH, 1, 0, 0).worst(), 1);
        DotRuns white = with("wide 8;alone 0 8;alone 0 8;alone 8;alone 0 8;", 1, 0, 0);
        Check.due("filled as above: the lines 0, 2 and 3", white.worst(), 0);
        white.paint(0, 0, 8, 0);
        Check.due("filled as above: the lines 1, 2 and 3", white.worst(), 1);
        white.paint(1, 0, 8, 0);
        white.paint(2, 0, 1, 1);
        Check.due("filled as above: the line 3 by 7", white.worst(), 3);
        white.set(2, 1);
        Check.due("filled white: the line 3 by 8", white.worst(), 3);
        white.paint(0, 0, 8, 1);
        Check.due("filled white: the lines 0 and 3 by 8", white.worst(), 0);
    }

    /** CHOOSE 0: 72, 84, 72, 88, 81 bits for EVERY 1 to 5; CHOOSE 1: 72, 72, 65, 72, 65. */
    private static void bestEveryWithChoose() {
        int[][] bits = {{72, 84, 72, 88, 81}, {72, 72, 65, 72, 65}};
        int[] best = {1, 3};
        for (int choose = 0; choose <= 1; choose++) {
            for (int every = 1; every <= 5; every++) {
                DotRuns x = with(TEETH + "set 4 0;", every, choose, 0);
                Check.due("bits of EVERY " + every, x.sent(0), bits[choose][every - 1]);
                Check.due("bestEvery with CHOOSE " + choose, x.bestEvery(), best[choose]);
            }
        }
    }

    /** The line 3 is lost: with FILL 0 and EVERY 3, where the line 4 is no mark, 8 dots are wrong, otherwise 4. */
    private static void bestEveryWithFill() {
        DotRuns x = with(TEETH + "loss 3 1;", 8, 1, 0);
        Check.due("FILL 0", x.bestEvery(), 1);
        x.set(2, 1);
        Check.due("FILL 1: no dot is wrong, fewest bits", x.bestEvery(), 3);
    }

    /** The line 2 is lost once: EVERY 2 takes 39 bits in 4 sendings, EVERY 3 takes 36 in 6. */
    private static void bestEveryWithHead() {
        DotRuns x = Calls.loaded(SAME + "loss 2 1;set 3 1;");
        int[] best = {3, 3, 2, 2};
        for (int head = 0; head < best.length; head++) {
            x.set(4, head);
            Check.due("HEAD " + head, x.bestEvery(), best[head]);
        }
        x.set(4, 99);
        Check.due("HEAD 99", x.bestEvery(), 2);
    }

    /** Without a step back a lost line 2 of other dots harms no line behind it if the line 3 is a mark. */
    private static void bestEveryWithLossAndSteps() {
        DotRuns x = Calls.loaded(TEETH + "set 4 0;");
        Check.due("no loss", x.bestEvery(), 1);
        x.set(1, 1);
        Check.due("no loss, CHOOSE", x.bestEvery(), 3);
        x.lose(3, 1);
        Check.due("4 dots are wrong with EVERY 1, 2 and 4, 8 otherwise", x.bestEvery(), 1);
        x.set(3, 1);
        Check.due("no dot is wrong, 80, 80, 73, 80, 73 bits", x.bestEvery(), 3);
    }

    private static void needsStepsWithFill() {
        DotRuns x = Calls.loaded(SAME + "loss 1 2;");
        Check.due("as above it is right by chance", x.needsSteps(), 0);
        x.set(2, 1);
        Check.due("white it is wrong", x.needsSteps(), 2);
        DotRuns white = Calls.loaded("wide 8;line ..##....;alone 8;loss 1 3;");
        Check.due("as above it is wrong", white.needsSteps(), 3);
        white.set(2, 1);
        Check.due("white it is right by chance", white.needsSteps(), 0);
        white.lose(0, 1);
        Check.due("the line 0 must come", white.needsSteps(), 1);
    }

    /** Which lines are marks says how far the sender steps back, not how often. */
    private static void needsStepsWithAnyMarks() {
        for (int every = 1; every <= 8; every++) {
            for (int choose = 0; choose <= 1; choose++) {
                Check.due("needsSteps", with(TEETH + "loss 2 2;loss 3 1;", every, choose, 0).needsSteps(), 3);
            }
        }
    }

    /** The line 2 is lost twice, one step back. */
    private static void sentWithEachSetting() {
        String text = TEETH + "loss 2 2;set 3 1;set 4 1;set 5 7;";
        // 0, 1, 2 lost, back to 0, 1, 2 lost and filled as the line 1, 3 and 4 not read
        all(with(text, 8, 0, 0), 8 + 15 + 40 + 8 + 15 + 40 + 17 + 1 + 8 + 7, 8, 1, 2, 1, 2, 0, 20, 2, 2);
        // all but the line 4 are marks: back to 2
        all(with(text, 8, 1, 0), 8 + 12 + 36 + 36 + 8 + 1 + 6 + 7, 6, 1, 4, 1, 0, 0, 4, 2, 0);
        // 2 filled white, below which 3 is not read, and is white by chance
        all(with(text, 8, 0, 1), 8 + 15 + 40 + 8 + 15 + 40 + 17 + 1 + 8 + 7, 8, 1, 3, 1, 1, 0, 4, 2, 1);
        // 2 and 4 are marks
        all(with(text, 2, 0, 0), 8 + 15 + 36 + 36 + 17 + 8 + 6 + 7, 6, 1, 3, 1, 1, 0, 12, 2, 1);
    }

    private static void all(DotRuns x, int... want) {
        for (int what = 0; what < want.length; what++) {
            Check.due("sent " + what, x.sent(what), want[what]);
        }
        Check.due("perDot", x.perDot(), want[0] / 40.0);
    }

    /**
     * As long as a step is left no line is filled, so all that is sent can be read. STEPS 0: all lost ones are filled
     * white, and the line 4 can be read below that; STEPS 1 to 3: it cannot below ######## or #.#.#.#. that is filled.
     */
    private static void notReadOnlyBelowAFilledLine() {
        DotRuns x = with(TEETH + "loss 1 1;loss 2 2;loss 3 1;", 8, 0, 0);
        int[] notRead = {0, 1, 1, 1, 0, 0};
        int[] steps = {0, 1, 2, 3, 4, 4};
        for (int most = 0; most < notRead.length; most++) {
            x.set(3, most);
            Check.due("steps back", x.sent(2), steps[most]);
            Check.due("sendings that cannot be read with STEPS " + most, x.sent(9), notRead[most]);
        }
    }
}
