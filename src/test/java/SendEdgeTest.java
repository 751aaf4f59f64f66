/** The boundary cases that the document names of sending the page (promises 25 to 33), worked out by hand. */
final class SendEdgeTest {

    /** alone 2 2 4 (12 bits); v1 v1 v0 (7 bits); v1 v1 v0 (7 bits). */
    private static final String STAIRS = "wide 8;line ..##....;line ...##...;line ....##..;";

    /** 20 lines: alone 2 2 4 (12 bits), v0 v0 v0 (3 bits). */
    private static final String SAME = "wide 8;set 0 8;" + Told.times(20, "line ..##....;");

    public static void main(String[] args) {
        withoutLines();
        lossAndStepsOfOneLine();
        stepsBackToTheLatestMark();
        stepsBackToAChosenMark();
        lossIsCountedFromTheBeginning();
        dearestSending();
        filledAboveTheLine0();
        filledAsTheLineAboveAsReceived();
        lineAboveAsReceivedAtThatTime();
        stateOfTheLatestSending();
        notReadIsRightByChance();
        rightBelowAWrongLine();
        eachLineIsReadByItsOwnCode();
        notAloneIfAsDear();
        sendingChangesNothing();
        harmIsOfOneLossAlone();
        harmOfTheFirstAndTheLastLine();
        worstIsTheLowestOfSeveral();
        bestEveryFrom1To8();
        needsStepsFrom0To9();
        perDotAndByAbove();
        Check.end("SendEdgeTest");
    }

    private static void sent(DotRuns x, int... want) {
        for (int what = 0; what < want.length; what++) {
            Check.due("sent " + what, x.sent(what), want[what]);
        }
        Check.argument("sent -1", () -> x.sent(-1));
        Check.argument("sent 10", () -> x.sent(10));
    }

    private static void sentLine(DotRuns x, int line, int... want) {
        for (int what = 0; what < want.length; what++) {
            Check.due("sentLine " + line + " " + what, x.sentLine(line, what), want[what]);
        }
        Check.argument("sentLine -1", () -> x.sentLine(line, -1));
        Check.argument("sentLine 5", () -> x.sentLine(line, 5));
    }

    private static void harm(DotRuns x, int line, int... want) {
        for (int what = 0; what < want.length; what++) {
            Check.due("harm " + line + " " + what, x.harm(line, what), want[what]);
        }
        Check.argument("harm -1", () -> x.harm(line, -1));
        Check.argument("harm 3", () -> x.harm(line, 3));
    }

    private static void has(DotRuns x, String... want) {
        for (int line = 0; line < want.length; line++) {
            Check.due("received " + line, Told.received(x, line), want[line]);
        }
    }

    private static void withoutLines() {
        for (String text : new String[] {"", "wide 40;set 0 8;set 1 1;set 2 1;set 3 9;set 4 99;set 5 99;loss 0 5;"}) {
            DotRuns x = Calls.loaded(text);
            sent(x, 0, 0, 0, 0, 0, 0, 0, 0, 0, 0);
            Check.due("worst", x.worst(), -1);
            Check.due("bestEvery", x.bestEvery(), 1);
            Check.due("needsSteps", x.needsSteps(), 0);
            Check.due("perDot", x.perDot(), 0.0);
            Check.due("byAbove", x.byAbove(), 0.0f);
            Check.index("sentLine", () -> x.sentLine(0, 0));
            Check.index("sentLine, the line first", () -> x.sentLine(0, 5));
            Check.index("received", () -> x.received(0, 0));
            Check.index("harm, the line first", () -> x.harm(0, 3));
        }
    }

    /** LOSS 0 to 5 and STEPS 0 to 9 of a line of 12 bits: it is filled at the sending for which no step is left. */
    private static void lossAndStepsOfOneLine() {
        DotRuns x = Calls.loaded("wide 8;line ..##....;");
        for (int loss = 0; loss <= 5; loss++) {
            for (int steps = 0; steps <= 9; steps++) {
                DotRuns y = Calls.loaded("wide 8;line ..##....;loss 0 " + loss + ";set 3 " + steps + ";");
                int back = Math.min(loss, steps);
                int filled = loss > steps ? 1 : 0;
                sent(y, 20 * (back + 1) + 16 * back, back + 1, back, 1 - filled, filled, 0, 0, 2 * filled, back + filled,
                    0);
                sentLine(y, 0, filled, back + 1, 20 * (back + 1), 2 * filled, back);
                has(y, filled == 1 ? "........" : "..##....");
            }
            x.lose(0, loss);
            Check.due("needsSteps with LOSS " + loss, x.needsSteps(), loss);
        }
    }

    /** "goes on with the latest mark up to this line (this line, if it is a mark)". */
    private static void stepsBackToTheLatestMark() {
        String text = "wide 8;set 0 2;set 3 1;" + Told.times(4, "alone 8;");
        DotRuns x = Calls.loaded(text + "loss 3 1;");
        sent(x, 16 + 9 + 16 + 9 + 16 + 16 + 9, 6, 1, 4, 0, 0, 0, 0, 1, 0);
        int[] times = {1, 1, 2, 2};
        for (int line = 0; line < 4; line++) {
            Check.due("the line 3 is lost, times of " + line, x.sentLine(line, 1), times[line]);
        }
        sentLine(x, 3, 0, 2, 18, 0, 1);
        sentLine(x, 2, 0, 2, 32, 0, 0);
        DotRuns y = Calls.loaded(text + "loss 2 1;");
        sent(y, 16 + 9 + 16 + 16 + 16 + 9, 5, 1, 4, 0, 0, 0, 0, 1, 0);
        sentLine(y, 1, 0, 1, 9, 0, 0);
        sentLine(y, 2, 0, 2, 32, 0, 1);
        DotRuns z = Calls.loaded(text + "loss 1 1;");
        sent(z, 16 + 9 + 16 + 16 + 9 + 16 + 9, 6, 1, 4, 0, 0, 0, 0, 1, 0);
        sentLine(z, 0, 0, 2, 32, 0, 0);
    }

    private static void stepsBackToAChosenMark() {
        DotRuns x = Calls.loaded("wide 8;set 3 1;line #.#.....;alone 8;alone 8;loss 2 1;");
        sent(x, 28 + 17 + 9 + 16 + 28 + 17 + 9, 6, 1);
        x.set(1, 1);
        sent(x, 28 + 16 + 9 + 16 + 16 + 9, 5, 1);
    }

    /** "as many of its sendings as LOSS tells, counted from the beginning of the sending of the page". */
    private static void lossIsCountedFromTheBeginning() {
        DotRuns x = Calls.loaded(STAIRS + "loss 0 1;loss 1 1;set 3 9;");
        // 0 lost, 0, 1 lost, 0, 1, 2
        sent(x, 3 * 20 + 3 * 15 + 2 * 16, 6, 2, 3, 0, 0, 0, 0, 2, 0);
        sent(x, 3 * 20 + 3 * 15 + 2 * 16, 6, 2, 3, 0, 0, 0, 0, 2, 0);
        x.lose(1, 5);
        sent(x, 20 + 16 + 6 * 35 + 5 * 16 + 15, 14, 6, 3, 0, 0, 0, 0, 6, 0);
        sentLine(x, 0, 0, 7, 140, 0, 1);
        sentLine(x, 1, 0, 6, 90, 0, 5);
        x.set(3, 5);
        sentLine(x, 1, 1, 5, 75, 2, 4);
    }

    /** All of the settings at their most, and more losses than there are steps. */
    private static void dearestSending() {
        DotRuns x = Calls.loaded("wide 8;set 0 8;set 3 9;set 4 99;set 5 99;" + Told.times(20, "alone 8;")
            + "loss 7 5;loss 15 5;");
        sent(x, 6 * (107 + 700) + 5 * (107 + 700) + 107 + 300 + 9 * 99, 92, 9, 19, 1, 0, 0, 0, 10, 0);
        sentLine(x, 0, 0, 6, 642, 0, 0);
        sentLine(x, 7, 0, 6, 600, 0, 5);
        sentLine(x, 15, 1, 5, 500, 0, 4);
        sentLine(x, 19, 0, 1, 100, 0, 0);
        Check.due("perDot", x.perDot(), 10175.0 / 160.0);
        DotRuns most = Calls.loaded("wide 40;set 0 8;set 3 9;set 4 99;set 5 99;" + Told.times(20, "alone 40;"));
        most.lose(7, 5);
        most.lose(6, 4);
        Check.due("9 steps of 7 or 8 lines each", most.sent(1), 20 + 4 * 7 + 5 * 8);
        most.set(4, 0);
        most.set(5, 0);
        Check.due("HEAD 0 and ASK 0", most.sent(0), 10 * 8 + 10 * 6 + 6 + 2 * 8 + 10);
    }

    /** "with FILL 0 it becomes as the line above as received", which is white above the line 0. */
    private static void filledAboveTheLine0() {
        for (int fill = 0; fill <= 1; fill++) {
            DotRuns x = Calls.loaded("wide 8;line ##......;line ##......;loss 0 1;set 2 " + fill + ";");
            sent(x, 20 + 11, 2, 0, 0, 1, 1, 0, 4, 1, 1);
            has(x, "........", "........");
            sentLine(x, 1, 2, 1, 11, 2, 0);
        }
    }

    private static void filledAsTheLineAboveAsReceived() {
        DotRuns x = Calls.loaded(STAIRS + "loss 1 1;loss 2 1;");
        sent(x, 50, 3, 0, 1, 2, 0, 0, 6, 2, 0);
        has(x, "..##....", "..##....", "..##....");
        x.set(2, 1);
        has(x, "..##....", "........", "........");
        sent(x, 50, 3, 0, 1, 2, 0, 0, 4, 2, 0);
    }

    /** "The line above as received is what the receiver has for it at that time." */
    private static void lineAboveAsReceivedAtThatTime() {
        DotRuns x = Calls.loaded(STAIRS + "loss 1 2;set 3 1;");
        // 0, 1 lost, back, 0, 1 lost and filled as 0, 2 read below it
        has(x, "..##....", "..##....", "...##...");
        sentLine(x, 2, 3, 1, 15, 2, 0);
        x.set(3, 2);
        has(x, "..##....", "...##...", "....##..");
        sentLine(x, 2, 0, 1, 15, 0, 0);
        DotRuns y = Calls.loaded("wide 8;alone 8;alone 0 8;alone 0 8;set 0 2;set 3 1;loss 1 1;loss 2 2;");
        // 0, 1 lost, back, 0, 1, 2 lost and filled as the line 1 as it came at last
        sent(y, 2 * 16 + 2 * (8 + 15) + (8 + 12) + 16, 5, 1, 2, 1, 0, 0, 0, 2, 0);
        has(y, "........", "########", "########");
    }

    /** "(1 and 2 by the latest sending of the line, even if all dots are right by chance.)" */
    private static void stateOfTheLatestSending() {
        DotRuns x = Calls.loaded("wide 8;line ..##....;line ..##....;loss 1 1;");
        sentLine(x, 1, 1, 1, 11, 0, 0);
        has(x, "..##....", "..##....");
        x.set(3, 1);
        sentLine(x, 1, 0, 2, 22, 0, 1);
        x.lose(1, 2);
        sentLine(x, 1, 1, 2, 22, 0, 1);
        Check.due("no dot is wrong", x.needsSteps(), 0);
    }

    private static void notReadIsRightByChance() {
        DotRuns x = Calls.loaded("wide 8;set 2 1;line ..##....;line ..###...;alone 8;loss 1 1;");
        sentLine(x, 2, 2, 1, 13, 0, 0);
        sent(x, 46, 3, 0, 1, 1, 1, 0, 3, 1, 1);
        has(x, "..##....", "........", "........");
    }

    /** 0 is "it came as it is (all dots are right)", also if the line above is wrong. */
    private static void rightBelowAWrongLine() {
        DotRuns x = Calls.loaded("wide 8;line ..##....;line ..###...;alone 8;loss 1 1;");
        sentLine(x, 1, 1, 1, 13, 1, 0);
        sentLine(x, 2, 0, 1, 13, 0, 0);
        sent(x, 46, 3, 0, 2, 1, 0, 0, 1, 1, 0);
    }

    /** Three codes, of which two are the same: v1 v1 v0, v1 v1 v0 and v0 v-1 v0. */
    private static void eachLineIsReadByItsOwnCode() {
        DotRuns x = Calls.loaded(STAIRS + "line ....#...;loss 1 1;");
        has(x, "..##....", "..##....", "...##...", "...#....");
        sentLine(x, 3, 3, 1, 13, 2, 0);
        sent(x, 63, 4, 0, 1, 1, 0, 2, 6, 1, 0);
    }

    /** "fewer bits than that by the line above": a line that costs as many is no mark to step back to. */
    private static void notAloneIfAsDear() {
        DotRuns x = Calls.loaded("wide 8;set 1 1;set 3 1;alone 8;line ..##....;loss 1 1;");
        sent(x, 16 + 20 + 16 + 16 + 20, 4, 1, 2);
        sentLine(x, 0, 0, 2, 32, 0, 0);
    }

    /** "what comes of sending the page (nothing changes)". */
    private static void sendingChangesNothing() {
        DotRuns x = Calls.loaded(STAIRS + "loss 1 2;loss 2 1;loss 9 4;set 3 1;");
        x.set(5, 7);
        x.show(2);
        String before = Calls.all(x) + Calls.output(x);
        x.harm(1, 1);
        x.worst();
        x.bestEvery();
        x.needsSteps();
        x.perDot();
        x.byAbove();
        x.received(2, 0);
        x.sentLine(1, 0);
        Check.due("all is as it was", Calls.all(x) + Calls.output(x), before);
        Check.due("no edit has come", x.count(11), 1);
        Check.due("sent as before", x.sent(1), 5);
        Check.due("LOSS stays", x.lose(9, 0), 4);
    }

    /** "the page is sent with LOSS 1 for this line and 0 for all others, and STEPS 0". */
    private static void harmIsOfOneLossAlone() {
        DotRuns x = Calls.loaded(STAIRS);
        int[][] want = {{3, 6, 2}, {2, 4, 2}, {1, 2, 2}};
        for (int line = 0; line < 3; line++) {
            harm(x, line, want[line]);
        }
        for (int line = 0; line < 3; line++) {
            x.lose(line, 5);
        }
        x.set(3, 9);
        for (int line = 0; line < 3; line++) {
            harm(x, line, want[line]);
        }
        x.set(0, 1);
        harm(x, 0, 1, 2, 0);
        harm(x, 2, 1, 2, 2);
        Check.index("no line", () -> x.harm(3, 0));
        Check.index("the line first", () -> x.harm(-1, 3));
    }

    /** "the last line with a wrong dot (NONE without one)". */
    private static void harmOfTheFirstAndTheLastLine() {
        DotRuns x = Calls.loaded(SAME);
        harm(x, 0, 8, 16, 7);
        harm(x, 1, 0, 0, -1);
        harm(x, 8, 0, 0, -1);
        harm(x, 19, 0, 0, -1);
        x.set(2, 1);
        harm(x, 0, 8, 16, 7);
        harm(x, 1, 7, 14, 7);
        harm(x, 7, 1, 2, 7);
        harm(x, 8, 8, 16, 15);
        harm(x, 16, 4, 8, 19);
        harm(x, 19, 1, 2, 19);
        x.set(0, 1);
        harm(x, 0, 1, 2, 0);
        DotRuns white = Calls.loaded("wide 8;alone 8;");
        harm(white, 0, 0, 0, -1);
        DotRuns one = Calls.loaded("wide 8;set 2 1;alone 8;line .......#;");
        harm(one, 0, 0, 0, -1);
        harm(one, 1, 1, 1, 1);
    }

    /** "of several the lowest one". */
    private static void worstIsTheLowestOfSeveral() {
        DotRuns x = Calls.loaded(SAME);
        Check.due("the line 0", x.worst(), 0);
        x.set(2, 1);
        Check.due("0 and 8 alike", x.worst(), 0);
        x.paint(0, 0, 8, 0);
        Check.due("8 alone", x.worst(), 8);
        Check.due("no harm at all", Calls.loaded("wide 8;" + Told.times(20, "alone 8;")).worst(), 0);
        DotRuns last = Calls.loaded("wide 8;" + Told.times(19, "alone 8;") + "alone 0 8;");
        Check.due("the last one", last.worst(), 19);
        Check.due("the only one", Calls.loaded("wide 8;alone 8;").worst(), 0);
    }

    /** "of several with the fewest bits, then the least one". */
    private static void bestEveryFrom1To8() {
        Check.due("one line", Calls.loaded("wide 8;set 0 8;alone 8;").bestEvery(), 1);
        Check.due("two lines, a cheaper one", Calls.loaded("wide 8;alone 8;alone 8;").bestEvery(), 2);
        Check.due("two lines, a dearer one", Calls.loaded("wide 8;line #.#.....;alone 8;").bestEvery(), 1);
        Check.due("8 lines", Calls.loaded("wide 8;" + Told.times(8, "alone 8;")).bestEvery(), 8);
        Check.due("7 lines", Calls.loaded("wide 8;" + Told.times(7, "alone 8;")).bestEvery(), 7);
        Check.due("20 lines: 7 and 8 alike", Calls.loaded("wide 8;" + Told.times(20, "alone 8;")).bestEvery(), 7);
        DotRuns x = Calls.loaded("wide 8;set 3 9;" + Told.times(8, "line ..##....;") + "loss 7 5;");
        // every EVERY has no wrong dot; with 7 the line 7 is a mark, and is sent again alone
        Check.due("no wrong dot, fewest bits", x.bestEvery(), 7);
        x.set(3, 0);
        x.set(2, 1);
        Check.due("the line 7 is wrong with each one, fewest bits", x.bestEvery(), 8);
    }

    /** "the least STEPS from 0 to 9 with which the page ... has no wrong dot; NONE without one". */
    private static void needsStepsFrom0To9() {
        DotRuns x = Calls.loaded(STAIRS);
        int[][] losses = {{0, 0, 0}, {0, 0, 1}, {5, 4, 0}, {3, 3, 3}, {5, 5, 0}, {4, 3, 3}, {5, 5, 5}};
        int[] want = {0, 1, 9, 9, -1, -1, -1};
        for (int i = 0; i < losses.length; i++) {
            for (int line = 0; line < 3; line++) {
                x.lose(line, losses[i][line]);
            }
            Check.due("needsSteps", x.needsSteps(), want[i]);
            x.set(3, i);
            Check.due("needsSteps with STEPS " + i, x.needsSteps(), want[i]);
        }
    }

    private static void perDotAndByAbove() {
        DotRuns one = Calls.loaded("wide 8;line ..##....;");
        Check.due("perDot of one line", one.perDot(), 2.5);
        Check.due("byAbove of one line", one.byAbove(), 0.0f);
        DotRuns x = Calls.loaded(SAME);
        Check.due("perDot of 20 lines", x.perDot(), (3.0 * 20.0 + 17.0 * 11.0) / 160.0);
        Check.due("byAbove of 20 lines", x.byAbove(), 17.0f / 20.0f);
        x.set(0, 7);
        Check.due("byAbove of EVERY 7", x.byAbove(), 17.0f / 20.0f);
        x.set(0, 6);
        Check.due("byAbove of EVERY 6", x.byAbove(), 16.0f / 20.0f);
        x.set(0, 3);
        Check.due("byAbove of EVERY 3", x.byAbove(), 13.0f / 20.0f);
        x.set(0, 1);
        Check.due("byAbove of EVERY 1", x.byAbove(), 0.0f);
        Check.due("perDot of EVERY 1", x.perDot(), 20.0 * 20.0 / 160.0);
        x.set(4, 0);
        Check.due("perDot of HEAD 0", x.perDot(), 20.0 * 12.0 / 160.0);
    }
}
