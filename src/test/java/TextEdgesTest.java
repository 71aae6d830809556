import java.util.function.Supplier;

/** Promises 21 to 24 and the form of the text at their edges, by promise and case. */
public final class TextEdgesTest {
    private static final int BAD = Check.BAD;
    private static final int NO = Check.NO;
    private static final int FULL = Check.FULL;
    private static final int NONE = Check.NONE;
    private static final String DIGITS = "0123456789";
    private static final String COMMANDS = "pcrxsm";

    /** With five rows, of which row 3 is zero, and three kept states. */
    private static final Supplier<PopovRows> FIVE_ROWS = Given.busy("r1,x; rx6,1; r3,2; r0,0; r5,5x3;");

    private static Supplier<PopovRows> withText(String text) {
        return () -> {
            PopovRows x = FIVE_ROWS.get();
            Given.types(x, text);
            return x;
        };
    }

    // ---- 21: type

    static void promise21_bytesZeroTo127() {
        for (int c = 0; c <= 127; c++) {
            PopovRows x = new PopovRows();
            Check.due("byte " + c, x.type(c), 1);
            Check.due("length", x.told(3), 1);
        }
        Check.dueBadBeside("byte", FIVE_ROWS, 0, 127, PopovRows::type);
        Check.dueBadBeside("byte behind 150", withText(Given.repeated(" ", 150)), 0, 127, PopovRows::type);
    }

    static void promise21_aByteIsNotCut() {
        for (int letter : new int[] {'p', '7', ';'}) {
            Check.dueRefused("and 128", FIVE_ROWS, BAD, x -> x.type(letter + 128));
            Check.dueRefused("and 256", FIVE_ROWS, BAD, x -> x.type(letter + 256));
            Check.dueRefused("less 256", FIVE_ROWS, BAD, x -> x.type(letter - 256));
            Check.dueRefused("and 2^16", FIVE_ROWS, BAD, x -> x.type(letter + 65536));
        }
    }

    static void promise21_lengthsOneTo150ThenFull() {
        PopovRows x = new PopovRows();
        for (int length = 1; length <= 150; length++) {
            Check.due("length", x.type(length % 128), length);
            Check.due("told", x.told(3), length);
        }
        Check.dueAll("behind 150", FULL, x.type('p'), x.type(0), x.type(127));
        Check.due("length", x.told(3), 150);
    }

    static void promise21_fullChangesNothing() {
        Check.dueRefused("blanks", withText(Given.repeated(" ", 150)), FULL, x -> x.type('p'));
        Check.dueRefused("commands", withText(Given.repeated("p7;", 50)), FULL, x -> x.type(';'));
    }

    static void promise21_badBeforeFull() {
        Supplier<PopovRows> maker = withText(Given.repeated("p7;", 50));
        Check.dueRefused("-1", maker, BAD, x -> x.type(-1));
        Check.dueRefused("128", maker, BAD, x -> x.type(128));
    }

    static void promise21_keepsNoState() {
        PopovRows x = FIVE_ROWS.get();
        x.type('p');
        x.clear();
        x.type('p');
        Check.due("kept", x.told(7), 3);
    }

    // ---- 22: clear

    static void promise22_lengthsZeroTo150() {
        PopovRows x = new PopovRows();
        Check.due("empty", x.clear(), 0);
        Check.due("empty again", x.clear(), 0);
        x.type('p');
        Check.due("one byte", x.clear(), 1);
        for (int i = 0; i < 150; i++) {
            x.type(' ');
        }
        Check.due("full", x.type(' '), FULL);
        Check.due("150 bytes", x.clear(), 150);
        Check.due("length", x.told(3), 0);
        Check.due("room again", x.type('p'), 1);
    }

    static void promise22_nothingOfTheTextStays() {
        PopovRows x = new PopovRows();
        Given.types(x, "r1,1;");
        x.clear();
        Check.due("empty", x.reads(), -10);
        Check.due("one byte", x.type('r'), 1);
        Check.due("too early", x.reads(), -11);
    }

    static void promise22_onlyTheTextIsEmptied() {
        PopovRows x = FIVE_ROWS.get();
        String old = View.state(x);
        String errors = View.errors(x);
        x.clear();
        Check.dueText("state", View.state(x), old);
        Check.dueText("errors", View.errors(x), errors);
        Check.due("kept", x.told(7), 3);
        Check.due("why(0)", x.why(0), 3);
        Check.due("why(1)", x.why(1), 1);
    }

    // ---- 23: faults

    /** Behind this beginning just these bytes can stand; a text may end there if it has ended a command. */
    private static void dueStanding(String beginning, String allowed) {
        for (int c = 0; c <= 127; c++) {
            PopovRows x = new PopovRows();
            Given.types(x, beginning);
            x.type(c);
            int answer = x.reads();
            boolean stands = answer != -10 - beginning.length();
            String what = "byte " + c + " behind '" + beginning + "'";
            Check.due(what, stands ? 1 : 0, allowed.indexOf(c) >= 0 ? 1 : 0);
            if (stands && answer > -1000 && answer < 0) {
                Check.due(what + ", too early", answer, -10 - beginning.length() - 1);
            }
        }
    }

    static void promise23_aCommandBeginsWithItsLetter() {
        String[] beginnings = {"", " ", "p7;", "c2; ", "r1,1;", "r1,x;", "rx,x6; ", "x0;", "s0100;", "m0;  "};
        for (String beginning : beginnings) {
            dueStanding(beginning, COMMANDS + " ");
        }
    }

    static void promise23_theDigitOfPIsAPrime() {
        dueStanding("p", "2357 ");
        dueStanding("p ", "2357 ");
        dueStanding("p2", "; ");
        dueStanding("p7 ", "; ");
    }

    static void promise23_theDigitOfCIsOneToThree() {
        dueStanding("c", "123 ");
        dueStanding("c  ", "123 ");
        dueStanding("c3", "; ");
        dueStanding("c1 ", "; ");
    }

    static void promise23_oneDigitForDropsAndMonic() {
        dueStanding("x", DIGITS + " ");
        dueStanding("x ", DIGITS + " ");
        dueStanding("x0", "; ");
        dueStanding("x9 ", "; ");
        dueStanding("m", DIGITS + " ");
        dueStanding("m0", "; ");
        dueStanding("m9 ", "; ");
    }

    static void promise23_fourDigitsForSteps() {
        dueStanding("s", DIGITS + " ");
        dueStanding("s9", DIGITS + " ");
        dueStanding("s9 9", DIGITS + " ");
        dueStanding("s999", DIGITS + " ");
        dueStanding("s999 ", DIGITS + " ");
        dueStanding("s9999", "; ");
        dueStanding("s 0 1 2 3 ", "; ");
    }

    static void promise23_aTermBeginsWithADigitOrX() {
        String[] beginnings = {"r", "r ", "r1+", "rx+ ", "rx6+", "r1,", "rx, ", "r1,x+", "c1;r", "c3;r1,1,", "c3;r1,1,1+"};
        for (String beginning : beginnings) {
            dueStanding(beginning, DIGITS + "x ");
        }
    }

    static void promise23_behindTheDigitOfATerm() {
        dueStanding("r1", "x+, ");
        dueStanding("r0 ", "x+, ");
        dueStanding("r1+9", "x+, ");
        dueStanding("r1,9", "x+; ");
        dueStanding("c1;r9", "x+; ");
        dueStanding("c3;r1,2", "x+, ");
        dueStanding("c3;r1,2,3 ", "x+; ");
    }

    static void promise23_aPowerIsOneToSixRightBehindX() {
        dueStanding("rx", "123456+, ");
        dueStanding("r2x", "123456+, ");
        dueStanding("r2 x", "123456+, ");
        dueStanding("r1,x", "123456+; ");
        dueStanding("r1,x+9x", "123456+; ");
        dueStanding("c1;rx", "123456+; ");
        dueStanding("c3;rx,x,x", "123456+; ");
    }

    static void promise23_noBlankBetweenXAndItsPower() {
        dueStanding("rx ", "+, ");
        dueStanding("r2x  ", "+, ");
        dueStanding("r1,x ", "+; ");
    }

    static void promise23_behindThePower() {
        dueStanding("rx1", "+, ");
        dueStanding("rx6 ", "+, ");
        dueStanding("r1,3x6", "+; ");
        dueStanding("c1;rx6", "+; ");
        dueStanding("c3;rx,x6", "+, ");
    }

    static void promise23_aRowHasCEntries() {
        for (int c = 1; c <= 3; c++) {
            PopovRows x = new PopovRows();
            x.columns(c);
            for (int entries = 1; entries <= 4; entries++) {
                Given.types(x, "r1" + Given.repeated(",1", entries - 1) + ";");
                int want = entries < c ? -10 - 2 * entries : entries == c ? 1 : -10 - 2 * c;
                Check.due(entries + " entries, " + c + " columns", x.reads(), want);
            }
        }
    }

    private static void dueFault(String text, int fault) {
        PopovRows x = withText(text).get();
        PopovRows untouched = withText(text).get();
        Check.due("fault of '" + text + "'", x.reads(), -10 - fault);
        Check.dueText("errors", View.errors(x), View.errors(untouched));
        Check.dueText("all else", View.all(x), View.all(untouched));
    }

    static void promise23_emptyAndBlankTextsEndTooEarly() {
        for (int blanks = 0; blanks <= 150; blanks++) {
            dueFault(Given.repeated(" ", blanks), blanks);
        }
    }

    static void promise23_aTextThatEndsTooEarlyFaultsAtItsLength() {
        String whole = "p 5; c3;r 2x3+x , 4 ,x ;x0;s0123; m4;";
        for (int length = 0; length < whole.length(); length++) {
            String begun = whole.substring(0, length);
            String bare = begun.replace(" ", "");
            if (bare.isEmpty() || !bare.endsWith(";")) {
                dueFault(begun, length);
            }
        }
        dueFault("p5", 2);
        dueFault("p5; c", 5);
        dueFault("p5; c ", 6);
    }

    static void promise23_aCommandMayEndBeforeBlanks() {
        String[] texts = {"p5;", "p5; ", " p5;", Given.repeated(" ", 147) + "p5;", "p5;" + Given.repeated(" ", 147)};
        for (String text : texts) {
            Check.due("'" + text + "'", Given.reads(new PopovRows(), text), 1);
        }
    }

    static void promise23_faultsAtTheEndsOfTheText() {
        String most = Given.repeated("p7;", 49);
        dueFault("q", 0);
        dueFault("\u0000", 0);
        dueFault("\u007f", 0);
        dueFault(most + "p7", 149);
        dueFault(most + "p7x", 149);
        dueFault(Given.repeated(" ", 149) + ";", 149);
        dueFault(Given.repeated(" ", 149) + "p", 150);
        dueFault(Given.repeated(" ", 146) + "r1,1", 150);
        dueFault(Given.repeated(" ", 148) + "p6", 149);
    }

    static void promise23_onlyTheByte32IsABlank() {
        for (int c : new int[] {0, 9, 10, 11, 12, 13, 28, 31, 33, 95, 127}) {
            dueFault((char) c + "p5;", 0);
            dueFault("p" + (char) c + "5;", 1);
            dueFault("p5;" + (char) c, 3);
        }
    }

    static void promise23_aFaultComesBeforeACommandThatStops() {
        dueFault("x9;q", 3);
        dueFault("r1,1;x", 6);
        dueFault("m3;m3;s0000;p4;", 13);
        dueFault("x5; c3; r1,1;", 12);
    }

    static void promise23_columnsForARowAreThoseOfTheText() {
        dueFault("c1;r1,", 5);
        dueFault("c3;r1,1;", 7);
        dueFault("c3;c1;r1,", 8);
        dueFault("r1,1,", 4);
        PopovRows x = new PopovRows();
        Check.due("one, then three", Given.reads(x, "c1;r1;c3;r1,2,3;c2;r4,5;"), 6);
        Check.dueText("state", View.state(x), "7/2 (4,5)");
        Check.due("those of the object", Given.reads(x, "rx,2;"), 1);
        x.columns(3);
        Check.due("too few for the object", Given.reads(x, "rx,2;"), -10 - 4);
        x.back();
        Check.due("as before", Given.reads(x, "rx,2;"), 1);
    }

    static void promise23_columnsOfATextThatFailedDoNotStay() {
        PopovRows x = new PopovRows();
        Check.due("a fault", Given.reads(x, "c1;r1,"), -10 - 5);
        Check.due("two columns still", Given.reads(x, "r1,1;"), 1);
        Check.due("a stop", Given.reads(x, "c3;r1,1,1;x1;"), -1002);
        Check.due("two columns still", Given.reads(x, "r1,1;"), 1);
        Check.dueText("state", View.state(x), "7/2 (1,1) (1,1)");
    }

    // ---- 23: what is read

    private static void dueRead(String text, int commands, String want) {
        PopovRows x = withText(text).get();
        Check.due("commands of '" + text + "'", x.reads(), commands);
        Check.dueText("state behind '" + text + "'", View.state(x), want);
        Check.due("length", x.told(3), text.length());
        Check.dueKept("'" + text + "'", withText(text), PopovRows::reads);
    }

    static void promise23_eachDigitIsTakenModuloP() {
        for (int p : Given.PRIMES) {
            for (int digit = 0; digit <= 9; digit++) {
                String entries = digit % p == 0 ? "," : digit % p + ",000000" + digit % p;
                dueRead("p" + p + ";c2;r" + digit + "," + digit + "x6;", 3, p + "/2 (" + entries + ")");
            }
        }
    }

    static void promise23_sumsOfTermsAreTakenModuloP() {
        dueRead("c1;r6+1;", 2, "7/1 ()");
        dueRead("c1;r9+9+9+9+9+9;", 2, "7/1 (5)");
        dueRead("c1;" + "r9x6" + Given.repeated("+9x6", 28) + ";", 2, "7/1 (0000002)");
        dueRead("p2;c1;rx+x+1+1+1;", 3, "2/1 (1)");
        dueRead("c1;r3x2+4x2+x;", 2, "7/1 (01)");
    }

    static void promise23_xWithoutNumberOrPower() {
        dueRead("c3;rx,x1,1x1;", 2, "7/3 (01,01,01)");
        dueRead("c3;r0x6,1,x6;", 2, "7/3 (,1,0000001)");
        dueRead("c1;rx1+2x2+3x3+4x4+5x5+6x6+6;", 2, "7/1 (6123456)");
    }

    static void promise23_primesOfTheTextForItsRows() {
        dueRead("p2;r3,2;", 2, "2/2 (1,)");
        dueRead("p3;r3,2;", 2, "3/2 (,2)");
        dueRead("p3;r1,1;p5;r9,6;", 4, "5/2 (4,1)");
        PopovRows x = new PopovRows();
        x.prime(3);
        Given.reads(x, "r5,x+2x;");
        Check.dueText("those of the object", View.state(x), "3/2 (2,)");
    }

    static void promise23_commandsAreAsTheirCalls() {
        String others = " (0000001,1) (3,2) (,) (5,0005)";
        dueRead("p5;", 1, "5/2");
        dueRead("c1;", 1, "7/1");
        dueRead("x0;", 1, "7/2" + others);
        dueRead("x4;", 1, "7/2 (1,01) (0000001,1) (3,2) (,)");
        dueRead("x0;r0,6;", 2, "7/2" + others + " (,6)");
        dueRead("s0220;", 1, "7/2 (,41)" + others);
        dueRead("m4;", 1, "7/2 (1,01) (0000001,1) (3,2) (,) (1,0001)");
    }

    static void promise23_stepsTakesItsDigitsInOrder() {
        dueRead("c2;r1,0;r0,x;s0132;s1063;", 5, "7/2 (1,0003) (0006,0100004)");
        dueRead("c1;r1;r1;s0166;", 4, "7/1 (1000006) (1)");
        dueRead("c1;r1;r1;s1000;", 4, "7/1 (1) (1)");
    }

    static void promise23_noneIsNoError() {
        dueRead("c1;r1;r6;s0110;", 4, "7/1 () (6)");
        dueRead("c1;r0;r0;s0166;", 4, "7/1 () ()");
    }

    static void promise23_oneToFiftyCommands() {
        for (int commands = 1; commands <= 50; commands++) {
            Check.due("commands", Given.reads(new PopovRows(), Given.repeated("p7;", commands)), commands);
        }
    }

    static void promise23_blanksBetweenAllOther() {
        String whole = "c2;r2x3+x,5x;rx2+1,9;s0163;m0;x1;";
        String want = "7/2 (060601,0202)";
        dueRead(whole, 6, want);
        for (int at = 0; at <= whole.length(); at++) {
            String text = whole.substring(0, at) + " " + whole.substring(at);
            boolean beforePower = at > 0 && at < whole.length() && whole.charAt(at - 1) == 'x'
                    && Character.isDigit(whole.charAt(at)) && !whole.startsWith("x1;", at - 1);
            if (beforePower) {
                dueFault(text, at + 1);
            } else {
                dueRead(text, 6, want);
            }
        }
    }

    static void promise23_theTextStaysAndIsReadAgain() {
        PopovRows x = new PopovRows();
        Given.types(x, "r1,x;");
        for (int rows = 1; rows <= 5; rows++) {
            Check.due("commands", x.reads(), 1);
            Check.due("rows", x.told(6), rows);
            Check.due("length", x.told(3), 5);
        }
        Check.due("the sixth row", x.reads(), -1000);
        Check.due("why", x.why(0), 4);
    }

    static void promise23_oneStateForAllCommands() {
        PopovRows x = new PopovRows();
        Check.due("many commands", Given.reads(x, "r1,1;r2,2;m1;s0110;x0;p3;c1;r1;"), 8);
        Check.due("kept", x.told(7), 1);
        Check.due("back", x.back(), 0);
        Check.dueText("before them", View.state(x), "7/2");
        PopovRows y = new PopovRows();
        for (int i = 0; i < 5; i++) {
            y.row();
        }
        Check.due("commands", Given.reads(y, "x0;x0;"), 2);
        Check.due("five kept", y.told(7), 5);
        for (int i = 4; i >= 0; i--) {
            Check.due("back", y.back(), i);
        }
        Check.dueText("the oldest is forgotten", View.state(y), "7/2 (,)");
    }

    // ---- 23 and 24: stops

    private static void dueStop(String text, int index, int error) {
        PopovRows x = withText(text).get();
        PopovRows untouched = withText(text).get();
        String what = "'" + text + "'";
        Check.due(what, x.reads(), -1000 - index);
        Check.due("error of " + what, x.why(0), error);
        Check.due("index of " + what, x.why(1), index);
        Check.dueText("errors counted by " + what, View.errors(x), View.errors(untouched));
        Check.due("kept by " + what, x.told(7), untouched.told(7));
        Check.due("length of " + what, x.told(3), text.length());
        Check.dueText("state behind " + what, View.state(x), View.state(untouched));
        Check.due("back", x.back(), untouched.back());
        Check.dueText("state behind back", View.state(x), View.state(untouched));
    }

    static void promise23_stopsAtEachIndex() {
        for (int index = 0; index < 50; index++) {
            PopovRows x = new PopovRows();
            Check.due("stop", Given.reads(x, Given.repeated("p7;", index) + "x0;"), -1000 - index);
            Check.due("index", x.why(1), index);
            Check.due("error", x.why(0), 2);
        }
    }

    static void promise23_noSuchRowIsBad() {
        for (int digit = 0; digit <= 9; digit++) {
            if (digit < 5) {
                Check.due("x" + digit, withText("x" + digit + ";").get().reads(), 1);
            } else {
                dueStop("x" + digit + ";", 0, 2);
                dueStop("m" + digit + ";", 0, 2);
                dueStop("s" + digit + "010;", 0, 2);
                dueStop("s0" + digit + "10;", 0, 2);
            }
        }
        dueStop("x0;x4;", 1, 2);
        dueStop("p5;x0;", 1, 2);
        dueStop("c2;m0;", 1, 2);
        dueStop("s2200;", 0, 2);
    }

    static void promise23_numberAndPowerOfStepsUpToSix() {
        for (int digit = 0; digit <= 9; digit++) {
            if (digit <= 6) {
                Check.due("c " + digit, withText("s02" + digit + "0;").get().reads(), 1);
                Check.due("k " + digit, withText("s021" + digit + ";").get().reads(), 1);
            } else {
                dueStop("s02" + digit + "0;", 0, 2);
                dueStop("s021" + digit + ";", 0, 2);
            }
        }
    }

    static void promise23_aDegreeAboveSixIsFull() {
        dueStop("s0111;", 0, 4);
        dueStop("m4;s0414;", 1, 4);
        Check.due("degree 6", withText("m4;s0413;").get().reads(), 2);
    }

    static void promise23_aSixthRowIsFull() {
        dueStop("r1,1;", 0, 4);
        dueStop("x0;r1,1;r2,2;", 2, 4);
        dueStop("c1;r1;r1;r1;r1;r1;r1;", 6, 4);
    }

    static void promise23_aZeroRowIsNotMadeMonic() {
        dueStop("m3;", 0, 3);
        dueStop("m0;m1;m2;m3;m4;", 3, 3);
        dueStop("x0;x0;x0;m0;", 3, 3);
    }

    static void promise23_theFirstStopIsTold() {
        dueStop("x9;m3;r1,1;", 0, 2);
        dueStop("m3;x9;r1,1;", 0, 3);
        dueStop("r1,1;m3;x9;", 0, 4);
        dueStop("p7;m0;r1,1;r1,1;", 1, 2);
    }

    static void promise23_nothingOfAStoppedTextIsDone() {
        dueStop("p2;c3;r1,1,1;m1;", 3, 2);
        dueStop("x0;x0;x0;x0;x0;x0;", 5, 2);
        dueStop("c1;r1;rx;s0130;m1;x0;x5;", 6, 2);
    }

    // ---- 24: why

    static void promise24_whatZeroAndOne() {
        Check.dueRange("what", FIVE_ROWS, 0, 1, PopovRows::why);
        Check.dueRange("what of a new object", PopovRows::new, 0, 1, PopovRows::why);
    }

    private static void dueWhy(String what, PopovRows x, int error, int index) {
        Check.due(what + ": error", x.why(0), error);
        Check.due(what + ": index", x.why(1), index);
    }

    static void promise24_zeroAndNoneBeforeAStop() {
        PopovRows x = new PopovRows();
        dueWhy("new", x, 0, NONE);
        x.reads();
        Given.reads(x, "r1,1;");
        Given.reads(x, "x0;q");
        x.drops(9);
        dueWhy("without a stop", x, 0, NONE);
    }

    static void promise24_eachError() {
        PopovRows x = new PopovRows();
        Given.reads(x, "m0;");
        dueWhy("BAD", x, 2, 0);
        Given.reads(x, "r0,0;m0;");
        dueWhy("NO", x, 3, 1);
        Given.reads(x, "r0,0;r0,0;r0,0;r0,0;r0,0;r0,0;");
        dueWhy("FULL", x, 4, 5);
        Given.reads(x, "x0;");
        dueWhy("BAD again", x, 2, 0);
    }

    static void promise24_otherCallsDoNotChangeIt() {
        PopovRows x = new PopovRows();
        Given.reads(x, "p7;p7;r0,0;m0;");
        dueWhy("the stop", x, 3, 3);
        Given.reads(x, "r1,1;");
        dueWhy("behind a reading that succeeds", x, 3, 3);
        Given.reads(x, "p");
        dueWhy("behind a fault", x, 3, 3);
        Given.reads(x, "x9;p");
        dueWhy("behind a fault behind a wrong command", x, 3, 3);
        x.prime(5);
        x.back();
        x.back();
        x.back();
        x.why(2);
        x.clear();
        x.digest();
        dueWhy("behind other calls", x, 3, 3);
    }

    public static void main(String[] args) {
        Check.runAll(TextEdgesTest.class);
    }
}
