/** The boundary cases that the terms of the document name. All values are worked out by hand. */
final class TermsEdgeTest {

    public static void main(String[] args) {
        widthIs8To40();
        aheadOfThePosition0IsWhite();
        aboveTheLine0IsWhite();
        firstRunIs0IfTheDot0IsBlack();
        firstPlaceIsAheadOfThePosition0();
        withoutAChangeThePlaceIsW();
        passOnlyIfDIsLessThanA();
        verticalFromMinus3To3();
        horizontalFromTheGreaterOneOfAAnd0();
        changesMustBeBehindAAndOfTheOtherColour();
        verticalMustBeBehindAAndAtMostW();
        horizontalMustBeBehindAAndAtMostW();
        passFrom0IfAIsMinus1();
        notReadIfWIsReachedTooEarlyOrNotAtAll();
        bitsOfNumbers();
        bitsOfModes();
        marksByEvery();
        marksByChoose();
        Check.end("TermsEdgeTest");
    }

    /** "W columns (8 to 40, 16 at first; the positions 0 to W - 1)". */
    private static void widthIs8To40() {
        int[][] widths = {{8, 8}, {40, 40}};
        for (int[] w : widths) {
            DotRuns x = Calls.loaded("wide " + w[0] + ";alone " + (w[1] - 1) + " 1;");
            Check.due("W", x.count(6), w[1]);
            Check.due("the first position", x.dot(0, 0), 0);
            Check.due("the last position", x.dot(0, w[1] - 1), 1);
            Check.index("behind the last position", () -> x.dot(0, w[1]));
        }
        DotRuns x = Calls.loaded("alone 15 1;");
        Check.due("W at first", x.count(6), 16);
        Check.due("the last position", x.dot(0, 15), 1);
        Check.index("behind the last position", () -> x.dot(0, 16));
    }

    /** "What stands ahead of the position 0 is white." */
    private static void aheadOfThePosition0IsWhite() {
        DotRuns x = Calls.loaded("wide 8;line #.......;line .#######;line ########;line ........;line .......#;");
        String[] want = {"0 1", "1", "0", "", "7"};
        for (int line = 0; line < want.length; line++) {
            Check.due("changes of the line " + line, Told.changes(x, line), want[line]);
        }
        Check.due("changes of all lines", x.count(9), 5);
    }

    /** "above the line 0 there is a white line (all dots white)". */
    private static void aboveTheLine0IsWhite() {
        DotRuns x = Calls.loaded("wide 8;line ##......;line ##......;loss 0 1;");
        Check.due("its code by the line above", Told.modes(x, 0), "h0 2>2 v0>8");
        Check.due("only the line 1 is as the line above", x.count(12), 1);
        Check.due("lost and filled as the white line", Told.received(x, 0), "........");
        x.paint(0, 0, 2, 0);
        Check.due("a white line 0", Told.modes(x, 0), "v0>8");
        Check.due("is as the line above", x.count(12), 1);
    }

    /** "The first run is 0 if the dot 0 is black; all others are at least 1. (A white line has the one run W.)" */
    private static void firstRunIs0IfTheDot0IsBlack() {
        DotRuns x = Calls.loaded("wide 8;line ........;line ########;line #.......;line .......#;line #......#;"
            + "line #.#.#.#.;line .#.#.#.#;");
        String[] want = {"8", "0 8", "0 1 7", "7 1", "0 1 6 1", "0 1 1 1 1 1 1 1 1", "1 1 1 1 1 1 1 1"};
        int[] numbers = {1, 2, 3, 2, 4, 9, 8};
        for (int line = 0; line < want.length; line++) {
            Check.due("runs of the line " + line, Told.runs(x, line), want[line]);
            Check.due("numbers of the line " + line, x.line(line, 4), numbers[line]);
        }
        Check.due("W 16", Told.runs(Calls.loaded("line ................;"), 0), "16");
        Check.due("W 40", Told.runs(Calls.loaded("wide 40;above v0;"), 0), "40");
    }

    /** The modes of a line of 8 dots below another one. */
    private static void coded(String above, String line, String modes) {
        DotRuns x = Calls.loaded("wide 8;line " + above + ";line " + line + ";");
        Check.due(line + " below " + above, Told.modes(x, 1), modes);
    }

    /** "A place a (-1 at first) and a colour c (white at first) are led through the line up to W." */
    private static void firstPlaceIsAheadOfThePosition0() {
        coded("#.......", "#.......", "v0>0 v0>1 v0>8");
        coded("########", "########", "v0>0 v0>8");
        coded(".#......", "#.......", "v-1>0 v-1>1 v0>8");
        coded("#.......", "........", "p>1 v0>8");
        coded("........", "........", "v0>8");
    }

    /** "(W without one)" of A, of B, of D and of E. */
    private static void withoutAChangeThePlaceIsW() {
        coded(".......#", "........", "v1>8");
        coded("........", ".......#", "v-1>7 v0>8");
        coded("########", "........", "h8 0>8");
        coded("........", "...#####", "h3 5>8");
        coded("......#.", "........", "p>7 v0>8");
    }

    /** "If D is less than A: the mode p". */
    private static void passOnlyIfDIsLessThanA() {
        coded("##......", ".#......", "v1>1 v0>2 v0>8");
        coded("##......", "..#.....", "v2>2 h1 5>8");
        coded("##......", "...#....", "p>2 h1 1>4 v0>8");
        coded("####....", "....####", "h4 4>8");
        coded("###.....", "....####", "p>3 h1 4>8");
        coded("#######.", "........", "p>7 v0>8");
        coded("########", "........", "h8 0>8");
    }

    /** "if A - B is -3 to 3: the mode v with the number A - B". */
    private static void verticalFromMinus3To3() {
        DotRuns x = Calls.loaded("alone 8 8;alone 5 11;alone 8 8;alone 4 12;alone 8 8;alone 11 5;alone 8 8;alone 12 4;");
        Check.due("-3", Told.modes(x, 1), "v-3>5 v0>16");
        Check.due("-4", Told.modes(x, 3), "h4 12>16");
        Check.due("3", Told.modes(x, 5), "v3>11 v0>16");
        Check.due("4", Told.modes(x, 7), "h12 4>16");
        Check.due("back by 3", Told.modes(x, 2), "v3>8 v0>16");
        Check.due("back by 4", Told.modes(x, 4), "h8 8>16");
    }

    /** "A less the greater one of a and 0, and E less A". */
    private static void horizontalFromTheGreaterOneOfAAnd0() {
        coded("........", "##......", "h0 2>2 v0>8");
        coded("........", ".##.....", "h1 2>3 v0>8");
        coded("#.......", "########", "v0>0 h8 0>8");
        coded("#.......", "#####...", "v0>0 h5 3>8");
        coded("........", ".##.##..", "h1 2>3 h1 2>6 v0>8");
        coded("........", ".##..##.", "h1 2>3 v-3>5 v-1>7 v0>8");
    }

    /** "B is the first change of the line above behind a whose dot there has another colour than c." */
    private static void changesMustBeBehindAAndOfTheOtherColour() {
        coded("..####..", "##......", "v-2>0 h2 6>8");
        coded("##......", "..#.....", "v2>2 h1 5>8");
        coded(".#.#....", ".##.#...", "v0>1 v1>3 h1 1>5 v0>8");
        coded("#.#.#.#.", "......#.", "p>1 p>3 p>5 v0>6 v0>7 v0>8");
    }

    private static void read(String text, String row) {
        DotRuns x = Calls.loaded("wide 8;" + text);
        Check.due(text, x.count(7) > 0 ? Calls.row(x, x.count(7) - 1) : "no line", row);
    }

    /** The mode that cannot be read stands behind the mark ^. */
    private static void notRead(String text) {
        DotRuns x = new DotRuns();
        String all = "wide 8;" + text;
        Check.due(text, Calls.load(x, all.replace("^", "")), -1);
        Check.due(text + " code", x.errorCode(), 4);
        Check.due(text + " position", x.errorPosition(), all.indexOf('^'));
    }

    /** "A mode v with n leads to A = B + n, which must be greater than a and at most W". */
    private static void verticalMustBeBehindAAndAtMostW() {
        read("line .#......;above v-1 v0 v0;", "##......");
        notRead("line .#......;above ^v-2;");
        notRead("line .#......;above ^v-3;");
        notRead("line #.......;above ^v-1;");
        read("line ##......;above v0 v-1 v0;", "#.......");
        notRead("line ##......;above v0 ^v-2;");
        notRead("line ##......;above v0 ^v-3;");
        read("above v0;", "........");
        notRead("above ^v1;");
        read("line ......#.;above v2;", "........");
        notRead("line ......#.;above ^v3;");
        read("line .....#..;above v3;", "........");
        read("line #####...;above v0 v3;", "########");
        notRead("line ######..;above v0 ^v3;");
    }

    /** "to E = A + n, which must be greater than a and at most W". */
    private static void horizontalMustBeBehindAAndAtMostW() {
        read("above h0 0 v0;", "........");
        notRead("above h0 0 ^h0 0;");
        read("above h0 0 h0 1 v0;", "#.......");
        read("above h0 0 h1 0 v0;", "........");
        read("above h3 5;", "...#####");
        notRead("above ^h3 6;");
        read("above h8 0;", "........");
        notRead("above ^h8 1;");
        read("above h0 8;", "########");
        notRead("above ^h1 8;");
        notRead("above ^h8 8;");
        read("above h2 2 h2 2;", "..##..##");
        notRead("above h2 2 ^h2 3;");
        notRead("above h2 2 ^h0 0;");
        read("line #.......;above v0 h3 2 v0;", "###..###");
        read("line #.......;above v0 h0 3 h1 1 h2 1;", "...#.##.");
    }

    /** "a mode p makes all dots from a (from 0, if a is -1) to D - 1 of the colour c, and a becomes D". */
    private static void passFrom0IfAIsMinus1() {
        read("above p;", "........");
        read("line ########;above p;", "........");
        read("line ##......;above p v0;", "........");
        read("line #.#.....;above v0 p v0 v0;", "###.....");
        read("line #.#.....;above v0 p p;", "########");
        read("line #.......;above v0 p;", "########");
    }

    /** "A code cannot be read ... if a is W already ahead of a mode, or if a is not W behind the last one." */
    private static void notReadIfWIsReachedTooEarlyOrNotAtAll() {
        notRead("above v0 ^v0;");
        notRead("above v0 ^v-1;");
        notRead("above v0 ^p;");
        notRead("above v0 ^h0 0;");
        notRead("above v0 ^h8 0;");
        notRead("above p ^p;");
        notRead("above h8 0 ^v0;");
        DotRuns x = Calls.loaded("wide 8;line ..#.....;line ..#.....;line ..##....;line ........;line ......##;");
        Check.due("v0 v0 v0 below white is at W behind the first", x.readBelow(1, DotRuns.NONE), -1);
        Check.due("p v0 below white is at W behind the p", x.readBelow(3, DotRuns.NONE), -1);
        Check.due("v0 v1 v0", Told.modes(x, 2), "v0>2 v1>4 v0>8");
        Check.due("v0 v1 v0 below ......## is at 6, and then v1 goes beyond W", x.readBelow(2, 4), -1);
        DotRuns y = Calls.loaded("wide 8;line ..##....;line ......##;line .......#;");
        Check.due("h2 2 v0", Told.modes(y, 0), "h2 2>4 v0>8");
        Check.due("h2 2 v0 below ......## ends at 6", y.readBelow(0, 1), -1);
        Check.due("h2 2 v0 below .......# ends at 7", y.readBelow(0, 2), -1);
        Check.due("h2 2 v0 below itself ends at 8", y.readBelow(0, 0), 0);
    }

    /** "A number costs 4 bits if it is less than 8, otherwise 8." */
    private static void bitsOfNumbers() {
        DotRuns x = Calls.loaded("wide 20;alone 7 13;alone 8 12;alone 0 20;alone 20;alone 13 7;alone 6 7 7;alone 8 8 4;");
        int[] want = {12, 16, 12, 8, 12, 12, 20};
        for (int line = 0; line < want.length; line++) {
            Check.due("bits alone of " + Told.runs(x, line), x.line(line, 1), want[line]);
        }
        String[] codes = {"7 7 6", "8 7 5", "7 8 5", "8 8 4", "0 7 13", "0 8 12"};
        int[] bits = {12, 16, 16, 20, 12, 16};
        for (int i = 0; i < codes.length; i++) {
            DotRuns y = Calls.loaded("wide 20;alone 20;alone " + codes[i] + ";");
            Check.due("one h and v0", y.line(1, 8) * 10 + y.line(1, 7), 11);
            Check.due("bits by the line above of " + codes[i], y.line(1, 2), bits[i]);
        }
    }

    /** "A mode p costs 4; a mode v 1 with the number 0, 3 with -1 or 1, 6 with -2 or 2, 7 with -3 or 3". */
    private static void bitsOfModes() {
        int[] bits = {7, 6, 3, 1, 3, 6, 7};
        for (int by = -3; by <= 3; by++) {
            DotRuns x = Calls.loaded("alone 8 8;alone " + (8 + by) + " " + (8 - by) + ";");
            Check.due("v" + by + " and v0", x.line(1, 2), bits[by + 3] + 1);
        }
        Check.due("p and v0", Calls.loaded("wide 8;line ......#.;alone 8;").line(1, 2), 5);
        Check.due("three p and v0", Calls.loaded("wide 8;line .#.#.#..;alone 8;").line(1, 2), 13);
        Check.due("h20 0", Calls.loaded("wide 20;alone 10 10;alone 20;").line(1, 2), 15);
        DotRuns x = Calls.loaded("wide 8;line #..#####;line #.......;");
        Check.due("the second number of an h can be 0", Told.modes(x, 1), "v0>0 v0>1 h7 0>8");
        Check.due("v0 v0 h7 0", x.line(1, 2), 13);
    }

    /** "A line is a mark, and is sent alone, if its number can be divided by EVERY". */
    private static void marksByEvery() {
        DotRuns x = Calls.loaded("wide 8;" + Told.times(20, "above v0;"));
        int[] marks = {20, 10, 7, 5, 4, 4, 3, 3};
        int[] latest = {19, 18, 18, 16, 15, 18, 14, 16};
        for (int every = 1; every <= 8; every++) {
            x.set(0, every);
            Check.due("marks with EVERY " + every, x.count(10), marks[every - 1]);
            Check.due("the latest one", x.line(19, 11), latest[every - 1]);
            Check.due("the line 0 is one", x.line(0, 0), 1);
            Check.due("a line that is just EVERY is one", x.line(every, 0), 1);
            Check.due("and is its own latest one", x.line(every, 11), every);
            Check.due("the one ahead of it is none, but for the line 0", x.line(every - 1, 0), every == 1 ? 1 : 0);
        }
    }

    /** "or if CHOOSE is 1 and its code alone costs fewer bits than that by the line above". */
    private static void marksByChoose() {
        String fewer = "wide 8;line #.#.....;alone 8;";
        DotRuns x = Calls.loaded(fewer);
        Check.due("8 bits alone", x.line(1, 1), 8);
        Check.due("9 bits by the line above", x.line(1, 2), 9);
        Check.due("CHOOSE 0", x.line(1, 0), 0);
        Check.due("is sent by the line above", x.line(1, 3), 9);
        x.set(1, 1);
        Check.due("CHOOSE 1", x.line(1, 0), 1);
        Check.due("is sent alone", x.line(1, 3), 8);
        DotRuns same = Calls.loaded("wide 8;set 1 1;alone 8;line ..##....;");
        Check.due("12 bits alone", same.line(1, 1), 12);
        Check.due("12 bits by the line above", same.line(1, 2), 12);
        Check.due("not fewer", same.line(1, 0), 0);
        DotRuns first = Calls.loaded("wide 8;set 1 1;line ......#.;line ......#.;");
        Check.due("12 bits alone", first.line(0, 1), 12);
        Check.due("10 bits by the white line above it", first.line(0, 2), 10);
        Check.due("the line 0 is always a mark", first.line(0, 0), 1);
        Check.due("and is sent alone", first.line(0, 3), 12);
    }
}
