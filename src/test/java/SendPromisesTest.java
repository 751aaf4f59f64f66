/** Promises 25 to 33: what comes of sending the page. The values are worked out by hand. */
final class SendPromisesTest {

    /** alone 2 2 4 (12 bits); v1 v1 v0 (7 bits, alone 12); v1 v1 v0 (7 bits, alone 12). */
    private static final String STAIRS = "wide 8; line ..##....; line ...##...; line ....##..;";

    public static void main(String[] args) {
        nothingLost();
        chosenMarks();
        lostAndFilledAsAbove();
        lostAndFilledWhite();
        readWrong();
        steppedBack();
        steppedBackBecauseUnread();
        lostMark();
        latestSendingCounts();
        filledByChance();
        harm();
        worst();
        bestEvery();
        needsSteps();
        perDotAndByAbove();
        wrongCalls();
        nothingChanges();
        Check.end("SendPromisesTest");
    }

    private static void sent(DotRuns x, int... want) {
        for (int what = 0; what < want.length; what++) {
            Check.due("sent " + what, x.sent(what), want[what]);
        }
    }

    private static void sentLine(DotRuns x, int line, int... want) {
        for (int what = 0; what < want.length; what++) {
            Check.due("sentLine " + line + " " + what, x.sentLine(line, what), want[what]);
        }
    }

    private static String has(DotRuns x, int line) {
        StringBuilder text = new StringBuilder();
        for (int at = 0; at < x.count(6); at++) {
            text.append(x.received(line, at) == 0 ? '.' : '#');
        }
        return text.toString();
    }

    private static void nothingLost() {
        DotRuns x = Calls.loaded(PagePromisesTest.THREE);
        sent(x, 46, 3, 0, 3, 0, 0, 0, 0, 0, 0);
        sentLine(x, 0, 0, 1, 20, 0, 0);
        sentLine(x, 1, 0, 1, 13, 0, 0);
        sentLine(x, 2, 0, 1, 13, 0, 0);
        for (int line = 0; line < 3; line++) {
            Check.due("received", has(x, line), Calls.row(x, line));
        }
        x.set(4, 0);
        sent(x, 22);
        x.set(4, 99);
        sent(x, 319);
        x.set(0, 2);
        sent(x, 322);
        sent(new DotRuns(), 0, 0, 0, 0, 0, 0, 0, 0, 0, 0);
    }

    /** The line 1 costs 17 bits by the line above and 8 alone, the line 2 is as cheap as that or cheaper. */
    private static void chosenMarks() {
        DotRuns x = Calls.loaded(PagePromisesTest.TEETH + "loss 2 1; set 3 1;");
        sent(x, (8 + 36) * 2 + (8 + 17) * 2 + (8 + 1) * 2 + 16, 6, 1);
        x.set(1, 1);
        sent(x, 8 + 36 + (8 + 8) * 2 + (8 + 1) * 2 + 16, 5, 1);
        Check.due("two marks of three lines", x.byAbove(), 1.0f / 3.0f);
        DotRuns same = Calls.loaded("wide 8; alone 8; line ..##....; loss 1 1; set 3 1; set 1 1;");
        sentLine(same, 0, 0, 2, 32, 0, 0);
        DotRuns first = Calls.loaded("wide 8; line ..##....; line ..##....; loss 0 1; set 2 1;");
        Check.due("harm of the line 0 alone", first.harm(1, 2), 1);
        first.invert(1);
        first.set(0, 1);
        Check.due("the line 0 is the last wrong one", first.harm(0, 2), 0);
    }

    private static void lostAndFilledAsAbove() {
        DotRuns x = Calls.loaded(PagePromisesTest.THREE + "loss 1 1;");
        sent(x, 46, 3, 0, 2, 1, 0, 0, 1, 1, 0);
        sentLine(x, 1, 1, 1, 13, 1, 0);
        sentLine(x, 2, 0, 1, 13, 0, 0);
        Check.due("as above", has(x, 1), "..##....");
        Check.due("read all the same", has(x, 2), "........");
        x.lose(1, 5);
        sent(x, 46, 3, 0, 2, 1, 0, 0, 1, 1, 0);
    }

    private static void lostAndFilledWhite() {
        DotRuns x = Calls.loaded(PagePromisesTest.THREE + "loss 1 1; set 2 1;");
        sent(x, 46, 3, 0, 1, 1, 1, 0, 3, 1, 1);
        sentLine(x, 1, 1, 1, 13, 3, 0);
        sentLine(x, 2, 2, 1, 13, 0, 0);
        Check.due("white", has(x, 1), "........");
        Check.due("white", has(x, 2), "........");
    }

    private static void readWrong() {
        DotRuns x = Calls.loaded(STAIRS + "loss 1 1;");
        sent(x, 50, 3, 0, 1, 1, 0, 1, 4, 1, 0);
        sentLine(x, 1, 1, 1, 15, 2, 0);
        sentLine(x, 2, 3, 1, 15, 2, 0);
        Check.due("as above", has(x, 1), "..##....");
        Check.due("read wrong", has(x, 2), "...##...");
    }

    private static void steppedBack() {
        DotRuns x = Calls.loaded(STAIRS + "loss 1 1; set 3 1;");
        sent(x, 101, 5, 1, 3, 0, 0, 0, 0, 1, 0);
        sentLine(x, 0, 0, 2, 40, 0, 0);
        sentLine(x, 1, 0, 2, 30, 0, 1);
        sentLine(x, 2, 0, 1, 15, 0, 0);
        x.set(5, 0);
        sent(x, 85);
        x.set(5, 99);
        sent(x, 184);
        x.lose(1, 2);
        sent(x, 184, 5, 1, 1, 1, 0, 1, 4, 2, 0);
        x.set(3, 9);
        sent(x, 318, 7, 2, 3, 0, 0, 0, 0, 2, 0);
        x.set(0, 1);
        x.set(5, 16);
        sentLine(x, 1, 0, 3, 60, 0, 2);
        sent(x, 132, 5, 2, 3, 0, 0, 0, 0, 2, 0);
    }

    /** The line 1 is filled because no step is left; then the line 2 cannot be read. */
    private static void steppedBackBecauseUnread() {
        DotRuns x = Calls.loaded(PagePromisesTest.THREE + "loss 1 1; set 2 1;");
        x.lose(1, 2);
        x.set(3, 1);
        sent(x, 8 * 5 + 2 * 12 + 2 * 5 + 5 + 16, 5, 1, 1, 1, 1, 0, 3, 2, 1);
        sentLine(x, 1, 1, 2, 26, 3, 1);
        sentLine(x, 2, 2, 1, 13, 0, 0);
        DotRuns y = Calls.loaded("wide 8; alone 8; alone 8; line .#......; line .##.....; line ..##....; loss 2 2;"
            + "set 3 1; set 2 1; set 0 2;");
        // 0 mark, 1, 2 mark (lost, step back to itself, lost, filled white), 3 by v0 v1 v0 below white: not read
        sent(y, 8 * 6 + 8 + 1 + 12 + 12 + 5 + 12 + 16, 6, 1, 3, 1, 1, 0, 3, 2, 1);
        y.set(3, 2);
        sentLine(y, 2, 0, 3, 60, 0, 2);
        sentLine(y, 3, 0, 1, 13, 0, 0);
        y.lose(2, 0);
        y.lose(0, 1);
        sentLine(y, 0, 0, 2, 32, 0, 1);
    }

    private static void lostMark() {
        DotRuns x = Calls.loaded(STAIRS + "loss 0 1;");
        sent(x, 50, 3, 0, 0, 1, 2, 0, 6, 1, 2);
        Check.due("white above the line 0", has(x, 0), "........");
        x.set(3, 1);
        sent(x, 50 + 20 + 16, 4, 1, 3, 0, 0, 0, 0, 1, 0);
        x.lose(0, 5);
        x.set(3, 4);
        sent(x, 4 * 36 + 50, 7, 4, 0, 1, 2, 0, 6, 5, 2);
    }

    /** Stepping back sends lines again that had been filled, and the latest sending tells the state. */
    private static void latestSendingCounts() {
        DotRuns x = Calls.loaded("wide 8; line ..##....; line ..##....; line ...##...; line ....##..; loss 0 1;"
            + "loss 1 2; set 3 2; set 0 8;");
        // 0 lost, back; 0, 1 lost, back; 0, 1 lost and filled as above, which is right by chance; 2; 3
        sent(x, 8 * 7 + 3 * 12 + 2 * 3 + 7 + 7 + 32, 7, 2, 3, 1, 0, 0, 0, 3, 0);
        sentLine(x, 1, 1, 2, 22, 0, 1);
        sentLine(x, 0, 0, 3, 60, 0, 1);
    }

    private static void filledByChance() {
        DotRuns x = Calls.loaded("wide 8; line ..##....; line ..##....; loss 1 1;");
        sentLine(x, 1, 1, 1, 11, 0, 0);
        sent(x, 31, 2, 0, 1, 1, 0, 0, 0, 1, 0);
        Check.due("no dot is wrong", x.needsSteps(), 0);
        Check.due("nothing is harmed", x.harm(1, 0), 0);
        Check.due("nothing is harmed", x.harm(1, 2), -1);
    }

    private static void harm() {
        DotRuns x = Calls.loaded(PagePromisesTest.THREE + "loss 2 5; set 3 9;");
        int[][] want = {{2, 5, 1}, {1, 1, 1}, {1, 3, 2}};
        int[][] white = {{2, 5, 1}, {1, 3, 1}, {0, 0, -1}};
        for (int line = 0; line < 3; line++) {
            for (int what = 0; what < 3; what++) {
                Check.due("harm " + line + " " + what, x.harm(line, what), want[line][what]);
            }
        }
        x.set(2, 1);
        for (int line = 0; line < 3; line++) {
            for (int what = 0; what < 3; what++) {
                Check.due("harm " + line + " " + what, x.harm(line, what), white[line][what]);
            }
        }
        DotRuns y = Calls.loaded(STAIRS);
        Check.due("lines", y.harm(1, 0), 2);
        Check.due("dots", y.harm(1, 1), 4);
        Check.due("last", y.harm(1, 2), 2);
        y.set(0, 1);
        Check.due("last of marks", y.harm(1, 2), 1);
    }

    private static void worst() {
        DotRuns x = Calls.loaded(STAIRS);
        Check.due("the first", x.worst(), 0);
        DotRuns y = Calls.loaded("wide 8; alone 8; line ...##...; line ....##..;");
        Check.due("the middle", y.worst(), 1);
        DotRuns z = Calls.loaded("wide 8; alone 8; alone 8;");
        Check.due("the lowest of several", z.worst(), 0);
        Check.due("without lines", new DotRuns().worst(), -1);
        DotRuns w = Calls.loaded("wide 8; alone 8; alone 0 8; alone 8; set 0 1;");
        Check.due("two of eight dots", w.harm(1, 1), 8);
        Check.due("two of eight dots", w.harm(2, 1), 8);
        Check.due("the lower one", w.worst(), 1);
        w.lose(2, 5);
        w.set(3, 9);
        Check.due("LOSS and STEPS do not count", w.worst(), 1);
    }

    private static void bestEvery() {
        DotRuns x = Calls.loaded(STAIRS);
        Check.due("fewest bits, then the least", x.bestEvery(), 3);
        x.lose(1, 1);
        Check.due("fewest wrong dots first", x.bestEvery(), 2);
        x.set(3, 1);
        // every has no wrong dot; 1 sends the line 1 twice alone: 5 * 12 + ...; 3 and more: 101
        Check.due("with the steps as they are", x.bestEvery(), 1);
        x.set(0, 8);
        x.set(5, 99);
        Check.due("ASK does not tell them apart", x.bestEvery(), 1);
        Check.due("without lines", new DotRuns().bestEvery(), 1);
        StringBuilder eight = new StringBuilder("wide 8;");
        for (int i = 0; i < 8; i++) {
            eight.append("line ..##....;");
        }
        Check.due("8 lines", Calls.loaded(eight.toString()).bestEvery(), 8);
        eight.append("line ..##....;");
        Check.due("9 lines: 5 to 8 have one mark more each", Calls.loaded(eight.toString()).bestEvery(), 5);
    }

    private static void needsSteps() {
        DotRuns x = Calls.loaded(STAIRS);
        Check.due("none", x.needsSteps(), 0);
        x.lose(1, 2);
        Check.due("two", x.needsSteps(), 2);
        x.lose(0, 5);
        Check.due("seven", x.needsSteps(), 7);
        x.lose(1, 4);
        Check.due("nine", x.needsSteps(), 9);
        x.lose(1, 5);
        Check.due("more than nine", x.needsSteps(), -1);
        x.set(3, 9);
        Check.due("whatever STEPS is", x.needsSteps(), -1);
        Check.due("without lines", new DotRuns().needsSteps(), 0);
    }

    private static void perDotAndByAbove() {
        DotRuns x = Calls.loaded(PagePromisesTest.THREE);
        Check.due("perDot", x.perDot(), 46.0 / 24.0);
        Check.due("byAbove", x.byAbove(), 2.0f / 3.0f);
        x.set(0, 2);
        Check.due("perDot", x.perDot(), 49.0 / 24.0);
        Check.due("byAbove", x.byAbove(), 1.0f / 3.0f);
        x.set(0, 1);
        Check.due("byAbove", x.byAbove(), 0.0f);
        x.set(0, 4);
        x.lose(1, 1);
        x.set(3, 1);
        Check.due("perDot with a step back", x.perDot(), (46 + 33 + 16) / 24.0);
        Check.due("perDot without lines", new DotRuns().perDot(), 0.0);
        Check.due("byAbove without lines", new DotRuns().byAbove(), 0.0f);
    }

    private static void wrongCalls() {
        DotRuns x = Calls.loaded(STAIRS);
        Check.argument("sent", () -> x.sent(-1));
        Check.argument("sent", () -> x.sent(10));
        Check.index("sentLine, line first", () -> x.sentLine(3, 5));
        Check.index("sentLine", () -> x.sentLine(-1, 0));
        Check.argument("sentLine", () -> x.sentLine(0, 5));
        Check.argument("sentLine", () -> x.sentLine(0, -1));
        Check.index("received", () -> x.received(3, 0));
        Check.index("received", () -> x.received(-1, 0));
        Check.index("received", () -> x.received(0, 8));
        Check.index("received", () -> x.received(0, -1));
        Check.index("harm, line first", () -> x.harm(3, 3));
        Check.index("harm", () -> x.harm(-1, 0));
        Check.argument("harm", () -> x.harm(0, 3));
        Check.argument("harm", () -> x.harm(0, -1));
    }

    private static void nothingChanges() {
        DotRuns x = Calls.loaded(STAIRS + "loss 1 1; loss 7 2; set 3 1;");
        x.write(1);
        String before = Calls.all(x) + Calls.output(x);
        x.sent(0);
        x.sentLine(1, 0);
        x.received(1, 0);
        x.harm(0, 0);
        x.worst();
        x.bestEvery();
        x.needsSteps();
        x.perDot();
        x.byAbove();
        Check.due("nothing changes", Calls.all(x) + Calls.output(x), before);
        sent(x, 101);
        Check.due("nothing to undo", x.undo(), -1);
    }
}
