import java.math.BigInteger;

/**
 * The boundary cases that the document names of texts, and of the promises 1 to 6. In a text with an error the mark ^
 * stands ahead of the place of the error (it is not part of the text).
 */
final class TextEdgeTest {

    private static final String WHITE = "line ................;";

    public static void main(String[] args) {
        textOfAtMost900Bytes();
        refusedAppendLeavesTheText();
        truncateFrom0ToThePresentLength();
        highestByteFirst();
        emptyText();
        whatIsNotToldIsAsAtFirst();
        textIsEmptyBehindEachLoad();
        errorOfTheLatestLoad();
        onlySpaceAndLineFeedBetweenTokens();
        tokensWithoutSpaces();
        eachTokenOnlyWhereItIsAllowed();
        textEndsTooEarly();
        numbersJustInsideAndJustOutside();
        numbersOfCodes();
        numbersOfAnyLength();
        rowsOfWSigns();
        semicolonBehindACodeThatDoesNotEndAtW();
        runsBeyondW();
        modesThatCannotBeRead();
        leastOfSeveralErrors();
        lines20And21();
        laterLossesReplaceEarlierOnes();
        lossesAndSettingsInAnyOrder();
        lineAboveIsTheOneToldLast();
        Check.end("TextEdgeTest");
    }

    private static DotRuns good(String text) {
        DotRuns x = new DotRuns();
        Check.due("<" + text + "> load", Calls.load(x, text) >= 0 ? 0 : -1, 0);
        Check.due("<" + text + "> code", x.errorCode(), 0);
        Check.due("<" + text + "> position", x.errorPosition(), -1);
        return x;
    }

    private static void bad(String text, int code) {
        DotRuns x = new DotRuns();
        Check.due("<" + text + "> load", Calls.load(x, text.replace("^", "")), -1);
        Check.due("<" + text + "> code", x.errorCode(), code);
        Check.due("<" + text + "> position", x.errorPosition(), text.indexOf('^'));
    }

    /** "a text buffer of at most 900 bytes". */
    private static void textOfAtMost900Bytes() {
        String head = "wide 8;" + Told.times(20, "above v0;");
        String tail = "set 4 7;";
        DotRuns x = good(head + Told.times(900 - head.length() - tail.length(), " ") + tail);
        Check.due("the first of 900 bytes are read", x.count(6), 8);
        Check.due("the last of 900 bytes are read", x.count(4), 7);
        bad(Told.times(899, " ") + "^;", 1);
        bad("alone" + Told.times(895, "\n") + "^", 1);
        Calls.put(x, Told.times(225, "    "));
        Check.state("904", () -> x.appendText(0));
        x.truncateText(897);
        Check.state("901", () -> x.appendText(0));
        x.truncateText(896);
        Check.due("900", x.appendText(0x20202020), 900);
        Check.state("904 again", () -> x.appendText(0));
    }

    private static void refusedAppendLeavesTheText() {
        DotRuns x = new DotRuns();
        Calls.put(x, "above p;" + Told.times(890, " "));
        Check.state("902", () -> x.appendText(';' << 24));
        Check.due("still 898", x.truncateText(898), 898);
        Check.argument("not 899", () -> x.truncateText(899));
        Check.due("is read as it was", x.load(), 1);
    }

    /** "the new length, 0 to the present length". */
    private static void truncateFrom0ToThePresentLength() {
        DotRuns x = new DotRuns();
        Check.due("0 of 0", x.truncateText(0), 0);
        Check.argument("1 of 0", () -> x.truncateText(1));
        Check.argument("-1 of 0", () -> x.truncateText(-1));
        Calls.put(x, "above p;");
        Check.due("8 of 8", x.truncateText(8), 8);
        Check.argument("9 of 8", () -> x.truncateText(9));
        Check.argument("-1 of 8", () -> x.truncateText(-1));
        Check.due("7 of 8", x.truncateText(7), 7);
        Check.argument("8 of 7", () -> x.truncateText(8));
        Check.due("append behind what was cut", x.appendText(0x3b202020), 11);
        Check.due("is read", x.load(), 1);
        Check.argument("nothing is left", () -> x.truncateText(1));
    }

    private static void highestByteFirst() {
        DotRuns x = new DotRuns();
        Check.due("4 bytes", x.appendText(0x73657420), 4);
        Check.due("8 bytes", x.appendText(0x3420373b), 8);
        Check.due("set 4 7;", x.load(), 0);
        Check.due("HEAD", x.count(4), 7);
        int[] negative = {0xff202020, 0x20ff2020, 0x2020ff20, 0x202020ff};
        for (int place = 0; place < 4; place++) {
            x.appendText(negative[place]);
            Check.due("a byte of 255", x.load(), -1);
            Check.due("its place", x.errorPosition(), place);
        }
    }

    /** "text = [ wide W ; ] { statement ; }": all of it may be missing. */
    private static void emptyText() {
        Check.due("no byte", good("").count(7), 0);
        Check.due("only spaces", good("  \n\n ").count(7), 0);
        Check.due("only a width", good("wide 9;").count(6), 9);
        Check.due("only a statement", good("set 4 3;").count(6), 16);
    }

    /** "what it does not tell is as at first". */
    private static void whatIsNotToldIsAsAtFirst() {
        DotRuns x = Calls.loaded("wide 40;alone 0 40;set 0 8;set 1 1;set 2 1;set 3 9;set 4 99;set 5 99;"
            + "loss 0 5;loss 10 4;loss 19 3;");
        x.invert(0);
        Check.due("an empty text", Calls.load(x, ""), 0);
        int[] first = {4, 0, 0, 0, 8, 16, 16, 0, 0, 0, 0, 0, 0};
        for (int what = 0; what < first.length; what++) {
            Check.due("count " + what, x.count(what), first[what]);
        }
        for (int line = 0; line < 20; line++) {
            Check.due("LOSS " + line, x.lose(line, 0), 0);
        }
        x.addLine(0, 0);
        Check.due("no dot of the old page is left", x.count(8), 0);
        Check.due("in 16 columns", x.invert(0), 16);
    }

    /** "The text buffer is empty afterwards, also if there is an error." */
    private static void textIsEmptyBehindEachLoad() {
        DotRuns x = good("alone 16;");
        Check.argument("behind a text without error", () -> x.truncateText(1));
        Check.due("an error", Calls.load(x, "alone 17;"), -1);
        Check.argument("behind a text with an error", () -> x.truncateText(1));
        Check.due("the page stays", x.count(7), 1);
        Check.due("the empty text that is there then has no error", x.load(), 0);
        Check.due("and tells no line", x.count(7), 0);
    }

    /** "the error code of the latest load(); 0 if its text had no error, or if there was no such call". */
    private static void errorOfTheLatestLoad() {
        DotRuns x = new DotRuns();
        Check.due("no load", x.errorCode(), 0);
        Check.due("no load", x.errorPosition(), -1);
        Calls.put(x, "$");
        Check.due("not yet", x.errorCode(), 0);
        x.load();
        Check.due("1", x.errorCode(), 1);
        Check.due("at 0", x.errorPosition(), 0);
        x.addLine(0, 1);
        x.undo();
        x.truncateText(0);
        Check.due("stays", x.errorCode(), 1);
        Check.due("stays", x.errorPosition(), 0);
        Calls.load(x, "line .;");
        Check.due("3", x.errorCode(), 3);
        Check.due("at 5", x.errorPosition(), 5);
        Calls.load(x, WHITE);
        Check.due("no error", x.errorCode(), 0);
        Check.due("no error", x.errorPosition(), -1);
    }

    /** "Spaces (byte 32) and line feeds (byte 10) may stand before, between and behind tokens." */
    private static void onlySpaceAndLineFeedBetweenTokens() {
        for (int sign = 0; sign < 256; sign++) {
            String s = "" + (char) sign;
            boolean space = sign == 32 || sign == 10;
            boolean letter = sign >= 'a' && sign <= 'z';
            boolean digit = sign >= '0' && sign <= '9';
            DotRuns x = new DotRuns();
            Check.due("byte " + sign + " behind", Calls.load(x, "set 4 1;" + s), space ? 0 : -1);
            Check.due("its place", x.errorPosition(), space ? -1 : 8);
            Check.due("byte " + sign + " before", Calls.load(x, s + "set 4 1;"), space ? 0 : -1);
            Check.due("its place", x.errorPosition(), space ? -1 : 0);
            Check.due("byte " + sign + " between", Calls.load(x, "set" + s + "04 1;"), space || sign == '0' ? 0 : -1);
            Check.due("its place", x.errorPosition(), space || sign == '0' ? -1 : letter ? 0 : 3);
            Check.due("its code", x.errorCode(), space || sign == '0' ? 0 : digit ? 2 : 1);
        }
    }

    private static void tokensWithoutSpaces() {
        DotRuns x = good("wide8;line........;alone0 2 6;above p h1 1v-3v0;set4 99;loss19 5;");
        Check.due("the last line", Calls.row(x, 2), "...#.###");
        Check.due("the first line", Calls.row(good("\n wide\n8 ; line\n#.#.#.#. ;\n"), 0), "#.#.#.#.");
        bad("wide8^line........;", 1);
        bad("above ^pp;", 1);
        bad("above ^vh;", 1);
        bad("^abovep;", 1);
        bad("line ^........ ........;", 3);
        bad("line ................ ^.;", 1);
        bad("alone 1^-5;", 1);
        bad("alone 1 6^.;", 1);
    }

    /** Behind each beginning all kinds of tokens are tried but those that stand with it. */
    private static void eachTokenOnlyWhereItIsAllowed() {
        String[][] places = {{"", "e"}, {"wide ", "n"}, {"wide 8 ", ";"}, {"wide 8; ", "e"}, {"line ", "r"},
            {WHITE.substring(0, 21) + " ", ";"}, {WHITE, "e"}, {"alone ", "n"}, {"alone 3 ", "n;"}, {"alone 16 ", "n;"},
            {"above ", ";"}, {"above p ", ";"}, {"above v ", "-n"}, {"above v - ", "n"}, {"above v 0 ", ";"},
            {"above h ", "n"}, {"above h 2 ", "n"}, {"above h 2 2 ", ";"}, {"set ", "n"}, {"set 0 ", "n"},
            {"set 0 1 ", ";"}, {"set 0 1; ", "e"}, {"loss ", "n"}, {"loss 0 ", "n"}, {"loss 0 1 ", ";"},
            {"loss 0 1; ", "e"}};
        String kinds = "wnr-;$e";
        String[] tokens = {"x", "1", "..", "-", ";", "$", ""};
        for (String[] place : places) {
            for (int kind = 0; kind < tokens.length; kind++) {
                if (place[1].indexOf(kinds.charAt(kind)) < 0) {
                    bad(place[0] + "^" + tokens[kind], 1);
                }
            }
        }
        bad("wide 8;^wide 8;", 1);
        bad("set 4 1;^wide 8;", 1);
        for (String word : new String[] {"p", "v", "h", "lines", "lin", "aline", "Line", "a", "wid", "widee", "sets"}) {
            bad("^" + word + " 8;", 1);
        }
        for (String word : new String[] {"wide", "line", "alone", "above", "set", "loss", "p", "v", "h"}) {
            bad("line ^" + word, 1);
            bad("alone 5 ^" + word, 1);
            bad("set ^" + word, 1);
        }
    }

    /** "or the length of the text if the text ends too early". */
    private static void textEndsTooEarly() {
        String[] tokens = ("wide 8 ; line ........ ; alone 0 2 6 ; above p h 1 1 v - 3 v 0 ; set 4 99 ; loss 19 5 ;")
            .split(" ");
        StringBuilder text = new StringBuilder();
        for (String token : tokens) {
            text.append(text.length() == 0 ? "" : " ").append(token);
            if (token.equals(";")) {
                good(text.toString());
                good(text + " \n");
            } else {
                bad(text + "^", 1);
                bad(text + " \n ^", 1);
            }
        }
    }

    /** For each number but those of codes: its least and its most one are good, one less and one more are not. */
    private static void numbersJustInsideAndJustOutside() {
        Object[][] numbers = {{"wide ", 8, 40, ";"}, {"set ", 0, 5, " 1;"}, {"set 0 ", 1, 8, ";"}, {"set 1 ", 0, 1, ";"},
            {"set 2 ", 0, 1, ";"}, {"set 3 ", 0, 9, ";"}, {"set 4 ", 0, 99, ";"}, {"set 5 ", 0, 99, ";"},
            {"loss ", 0, 19, " 0;"}, {"loss 0 ", 0, 5, ";"}, {"loss 19 ", 0, 5, ";"}};
        for (Object[] n : numbers) {
            int least = (int) n[1];
            int most = (int) n[2];
            good(n[0] + "" + least + n[3]);
            good(n[0] + "" + most + n[3]);
            bad(n[0] + "^" + (most + 1) + n[3], 2);
            if (least > 0) {
                bad(n[0] + "^" + (least - 1) + n[3], 2);
            } else {
                bad(n[0] + "^-1" + n[3], 1);
            }
        }
    }

    /** "The first N of alone is 0 to W, each other one 1 to W; those of h are 0 to W, that of v 0 to 3." */
    private static void numbersOfCodes() {
        int[] widths = {8, 16, 40};
        for (int w : widths) {
            String wide = "wide " + w + ";";
            good(wide + "alone " + w + ";");
            good(wide + "alone 0 " + w + ";");
            good(wide + "alone 0 1 " + (w - 1) + ";");
            bad(wide + "alone ^" + (w + 1) + ";", 2);
            bad(wide + "alone 0 ^" + (w + 1) + ";", 2);
            bad(wide + "alone 0 ^0 " + w + ";", 2);
            bad(wide + "alone 1 ^0 " + (w - 1) + ";", 2);
            bad(wide + "alone " + w + " ^0;", 2);
            good(wide + "above h" + w + " 0;");
            good(wide + "above h0 " + w + ";");
            good(wide + "above h0 0 v0;");
            bad(wide + "above h^" + (w + 1) + " 0;", 2);
            bad(wide + "above h0 ^" + (w + 1) + ";", 2);
            bad(wide + "above h" + w + " ^" + (w + 1) + ";", 2);
        }
        good("above v0;");
        good("above v-0;");
        good("line .............###;above v3;");
        good("above v-3 v0;");
        bad("above v^4;", 2);
        bad("above v-^4;", 2);
        bad("line .............###;above v^4;", 2);
    }

    /** "Numbers may have any number of digits." */
    private static void numbersOfAnyLength() {
        String[][] places = {{"wide ", "8", ";"}, {"alone ", "16", ";"}, {"alone 0 ", "16", ";"}, {"above v", "0", ";"},
            {"above v-", "0", ";"}, {"above h", "16", " 0;"}, {"above h0 ", "16", ";"}, {"set ", "4", " 1;"},
            {"set 4 ", "1", ";"}, {"loss ", "3", " 1;"}, {"loss 3 ", "1", ";"}};
        for (String[] place : places) {
            good(place[0] + Told.times(300, "0") + place[1] + place[2]);
            BigInteger value = new BigInteger(place[1]);
            for (int bits : new int[] {8, 15, 16, 31, 32, 33, 63, 64, 65, 128}) {
                bad(place[0] + "^" + BigInteger.ONE.shiftLeft(bits).add(value) + place[2], 2);
            }
            for (int zeros : new int[] {2, 3, 9, 10, 11, 18, 19, 20, 100}) {
                bad(place[0] + "^" + BigInteger.TEN.pow(zeros).add(value) + place[2], 2);
            }
        }
    }

    /** "3 for a row that has not W signs". */
    private static void rowsOfWSigns() {
        for (int w : new int[] {8, 16, 40}) {
            String wide = w == 16 ? "" : "wide " + w + ";";
            for (int signs : new int[] {w - 1, w + 1, 1, 2 * w, w + 64}) {
                bad(wide + "line ^" + Told.times(signs, "#") + ";", 3);
            }
            DotRuns x = good(wide + "line " + Told.times(w, "#") + ";");
            Check.due("black dots", x.count(8), w);
        }
    }

    /** "3 ... for the ; behind a code that does not end at W". */
    private static void semicolonBehindACodeThatDoesNotEndAtW() {
        bad("alone 15^;", 3);
        bad("alone 0^;", 3);
        bad("alone 1 2 3 ^;", 3);
        bad("alone 0 15^;", 3);
        bad("wide 40;alone 20 19^;", 3);
        bad("above^;", 3);
        bad("above h0 0^;", 3);
        bad("above v-1^;", 3);
        bad("above h8 7^;", 3);
        bad("line ##..............;above p^;", 3);
        good("alone 15 1;");
        good("wide 40;alone 20 20;");
        good("above v-1 v0;");
        good("above h8 8;");
        good("line ##..............;above p v0;");
    }

    /** "4 for an N of alone with which the runs go beyond W". */
    private static void runsBeyondW() {
        good("alone 15 1;");
        bad("alone 15 ^2;", 4);
        bad("alone 16 ^1;", 4);
        bad("alone 0 16 ^1;", 4);
        bad("alone 1 ^16;", 4);
        bad("alone 1 1 1 ^14 1;", 4);
        bad("wide 40;alone 1 ^40;", 4);
        bad("wide 8;alone 7 ^2", 4);
    }

    /** "one behind the end of the code at once, ...; other ones when their numbers are there without an error". */
    private static void modesThatCannotBeRead() {
        bad("above v0 ^p;", 4);
        bad("above v0 ^v;", 4);
        bad("above v0 ^v9;", 4);
        bad("above v0 ^v$", 4);
        bad("above v0 ^h", 4);
        bad("above v0 ^h17 17;", 4);
        bad("above v0 ^h x", 4);
        bad("above ^v1;", 4);
        bad("above ^v1 $", 4);
        bad("above ^v1", 4);
        bad("above ^v\n1", 4);
        bad("above v-2 ^v - 3;", 4);
        bad("above ^h16 1;", 4);
        bad("above ^h16 1", 4);
        bad("above ^h1 16 x", 4);
        bad("above v ^4", 2);
        bad("above v ^x", 1);
        bad("above v - ^;", 1);
        bad("above h16 ^17;", 2);
        bad("above h16 ^;", 1);
        bad("above h16^", 1);
    }

    /** "The error code, of several the least". */
    private static void leastOfSeveralErrors() {
        bad("alone 5 ^17;", 2);
        bad("alone 16 ^17;", 2);
        bad("alone^;", 1);
        bad("alone 5^", 1);
        bad("above^", 1);
        bad("above v-1^", 1);
        bad("above v0 ^x;", 1);
        bad("above v0 ^vv;", 1);
        bad("above v0 ^5;", 1);
        bad("set ^6 100;", 2);
        bad("wide ^7 $", 2);
        bad("line ^. $", 3);
    }

    /** "up to 20 lines", "5 for the first word of a 21st line". */
    private static void lines20And21() {
        String nineteen = Told.times(19, "above v0;");
        String twenty = nineteen + "above v0;";
        for (String line : new String[] {WHITE, "alone 16;", "above v0;"}) {
            Check.due("19 lines and one", good(nineteen + line).count(7), 20);
            bad(twenty + "^" + line, 5);
            bad(twenty + "set 4 1; loss 0 1;\n^" + line, 5);
        }
        Check.due("20 lines and no line more", good(twenty + "set 4 1;loss 0 1;").count(7), 20);
        bad(twenty + "^line .;", 5);
        bad(twenty + "^line", 5);
        bad(twenty + "^alone 17;", 5);
        bad(twenty + "^above v1;", 5);
        bad(twenty + "^above$", 5);
        bad(twenty + "^linex", 1);
        bad(twenty + "^wide 8;", 1);
        bad(twenty + "^p", 1);
        bad(twenty + "^$", 1);
        bad(twenty + "set 4 ^100;", 2);
    }

    /** "LINE is 0 to 19, TIMES 0 to 5 (later ones replace earlier ones, also for lines that there are not)". */
    private static void laterLossesReplaceEarlierOnes() {
        DotRuns x = good("loss 19 5;loss 0 1;alone 16;loss 19 2;loss 0 0;loss 7 3;loss 7 4;set 4 3;set 4 2;");
        Check.due("19", x.lose(19, 0), 2);
        Check.due("0", x.lose(0, 0), 0);
        Check.due("7", x.lose(7, 0), 4);
        Check.due("1", x.lose(1, 0), 0);
        Check.due("HEAD", x.count(4), 2);
        x.undo();
        Check.due("one LOSS comes back", x.count(11), 3);
    }

    /** LOSS and the settings may be told ahead of the lines, between them and behind them. */
    private static void lossesAndSettingsInAnyOrder() {
        for (String line : new String[] {WHITE, "alone 16;", "above v0;"}) {
            DotRuns x = good("loss 0 3;set 4 7;loss 1 2;" + line + "set 5 6;loss 2 1;" + line + line + "set 0 8;loss 3 4;");
            int[] losses = {3, 2, 1, 4, 0};
            Check.due("HEAD", x.count(4), 7);
            Check.due("ASK", x.count(5), 6);
            Check.due("EVERY", x.count(0), 8);
            for (int number = 0; number < losses.length; number++) {
                Check.due("LOSS " + number, x.lose(number, 0), losses[number]);
            }
        }
    }

    /** "the line above being the one that was told last (a white one ahead of the first)". */
    private static void lineAboveIsTheOneToldLast() {
        DotRuns x = good("above h0 3 v0;above v0 v0 v0;set 0 1;loss 0 1;above v0 v1 v0;alone 16;above v0;"
            + "line ####............;above v0 v0 v0;");
        String[] want = {"###.............", "###.............", "####............", "................",
            "................", "####............", "####............"};
        for (int line = 0; line < want.length; line++) {
            Check.due("line " + line, Calls.row(x, line), want[line]);
        }
        bad("set 4 1;above v0 ^v0;", 4);
    }
}
