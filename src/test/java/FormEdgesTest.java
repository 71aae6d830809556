import java.util.function.Supplier;

/** Promises 12 to 20 at their edges: a test for each sentence that names one, by promise and case. */
public final class FormEdgesTest {
    private static final int BAD = Check.BAD;
    private static final int NO = Check.NO;
    private static final int NONE = Check.NONE;
    private static final int LEAST = Check.LEAST;
    private static final int MOST = Check.MOST;
    private static final int NO_SUCH = -5;

    /** Sets with a row that does not exist, if there are five. */
    private static final int[] WRONG_SETS = {32, 33, 63, 64, -1, -32, -31, 1 << 16, 1 << 30, (1 << 30) + 31, LEAST,
        LEAST + 1, LEAST + 31, MOST, MOST - 31};

    /** Rows 1 to 3 generate row 0 in just one way; row 4 is a multiple of row 3. */
    private static final Supplier<PopovRows> UNIT_ROWS = Given.busy("c3; r1,2,x; r1,0,0; r0,1,0; r0,0,1; r0,0,x;");

    /** A call with a row and a set that must not contain it. */
    private interface SetCall {
        int on(PopovRows x, int i, int set);
    }

    /** The last of some rows, with every set of those before it, and with sets that contain more. */
    private static void dueSetsBefore(SetCall call) {
        for (int rows = 1; rows <= 5; rows++) {
            int last = rows - 1;
            Check.dueRange("set beside row " + last, Given.busyRows(1, rows), 0, (1 << last) - 1,
                    (x, set) -> call.on(x, last, set));
        }
    }

    /** Each of five rows with every set: BAD if the row belongs to it. */
    private static void dueBeside(SetCall call) {
        for (int i = 0; i < 5; i++) {
            for (int set = 0; set <= 31; set++) {
                int row = i;
                int asked = set;
                String what = "row " + i + ", set " + set;
                if (((set >> i) & 1) == 1) {
                    Check.dueRefused(what, UNIT_ROWS, BAD, x -> call.on(x, row, asked));
                } else {
                    Check.dueAllowed(what, UNIT_ROWS, x -> call.on(x, row, asked));
                }
            }
        }
        for (int set : WRONG_SETS) {
            Check.dueRefused("set " + set, UNIT_ROWS, BAD, x -> call.on(x, 0, set));
        }
    }

    // ---- 12: rank

    static void promise12_setsOfEachCount() {
        for (int rows = 0; rows <= 5; rows++) {
            Check.dueRange("set of " + rows, Given.busyRows(1, rows), 0, (1 << rows) - 1, PopovRows::rank);
        }
        for (int set : WRONG_SETS) {
            Check.dueRefused("set " + set, UNIT_ROWS, BAD, x -> x.rank(set));
        }
    }

    static void promise12_theEmptySetHasRankZero() {
        Check.dueAnswered("without rows", Given.busy("c3;"), 0, x -> x.rank(0));
        Check.dueAnswered("with rows", UNIT_ROWS, 0, x -> x.rank(0));
    }

    static void promise12_zeroRowsAddNothing() {
        Supplier<PopovRows> maker = Given.busy("r0,0; r0,0; rx,1;");
        Check.dueAnswered("one zero row", maker, 0, x -> x.rank(1));
        Check.dueAnswered("two zero rows", maker, 0, x -> x.rank(3));
        Check.dueAnswered("and another", maker, 1, x -> x.rank(7));
    }

    static void promise12_atMostC() {
        Check.dueAnswered("one column", Given.busy("c1; rx; rx2; r1; rx6; r3;"), 1, x -> x.rank(31));
        Check.dueAnswered("two columns", Given.busy("r1,0; r0,1; r1,1; rx,x2; r5,5x6;"), 2, x -> x.rank(31));
        Check.dueAnswered("three columns", UNIT_ROWS, 3, x -> x.rank(31));
    }

    static void promise12_bitIIsRowI() {
        Supplier<PopovRows> maker = Given.busy("c1; r0; r1; r0; rx; r0;");
        for (int i = 0; i < 5; i++) {
            int set = 1 << i;
            Check.dueAnswered("row " + i, maker, i % 2, x -> x.rank(set));
        }
        Check.dueAnswered("the zero rows", maker, 0, x -> x.rank(21));
    }

    static void promise12_multiplesByPolynomials() {
        Check.dueAnswered("a multiple", Given.busy("rx,1; rx2+x,x+1;"), 1, x -> x.rank(3));
        Check.dueAnswered("not quite", Given.busy("rx,1; rx2+x+1,x+1;"), 2, x -> x.rank(3));
        Check.dueAnswered("not quite in the last column", Given.busy("c3; rx,1,0; rx2,x,1;"), 2, x -> x.rank(3));
        Check.dueAnswered("both of a third", Given.busy("c1; rx2+x; rx2+6;"), 1, x -> x.rank(3));
    }

    static void promise12_aDroppedRowIsNotThere() {
        PopovRows x = UNIT_ROWS.get();
        x.drops(0);
        Check.due("bit 4", x.rank(16), BAD);
        Check.due("bits 0 to 3", x.rank(15), 3);
    }

    // ---- 13: form

    static void promise13_setsOfEachCount() {
        for (int rows = 0; rows <= 5; rows++) {
            int last = (1 << rows) - 1;
            Check.dueRange("set of " + rows, Given.busyRows(1, rows), 0, last, (x, set) -> x.form(set, 0, 0, 0));
        }
        for (int set : WRONG_SETS) {
            Check.dueRefused("set " + set, UNIT_ROWS, BAD, x -> x.form(set, 0, 0, 0));
        }
    }

    static void promise13_indexesUpToTheRank() {
        int[] sets = {0, 2, 6, 14};
        for (int rank = 0; rank < sets.length; rank++) {
            int set = sets[rank];
            for (int i = 0; i < rank; i++) {
                int index = i;
                Check.dueAnswered("pivot", UNIT_ROWS, i, x -> x.form(set, index, NONE, 1));
            }
            int[] none = {rank, rank + 1, 4, 5, 31, 32, 1 << 28, 1 << 30, MOST - 1, MOST};
            for (int i : none) {
                Check.dueAnswered("index " + i, UNIT_ROWS, NO_SUCH, x -> x.form(set, i, NONE, 0));
                Check.dueAnswered("index " + i, UNIT_ROWS, NO_SUCH, x -> x.form(set, i, 2, 6));
            }
        }
    }

    static void promise13_aNegativeIndexIsBad() {
        int[] negative = {-1, -2, -5, -32, LEAST, LEAST + 1};
        for (int i : negative) {
            Check.dueRefused("index " + i, UNIT_ROWS, BAD, x -> x.form(14, i, 0, 0));
            Check.dueRefused("index " + i + " of nothing", UNIT_ROWS, BAD, x -> x.form(0, i, NONE, 0));
        }
    }

    static void promise13_noneOrAColumn() {
        for (int c = 1; c <= 3; c++) {
            Check.dueRange("column of " + c, Given.busyRows(c, 1), NONE, c - 1, (x, at) -> x.form(1, 0, at, 0));
        }
    }

    static void promise13_powersZeroToSix() {
        Check.dueRange("power", UNIT_ROWS, 0, 6, (x, k) -> x.form(14, 2, 2, k));
        Supplier<PopovRows> maker = Given.busy("c2; r3+6x,3x6+1;");
        Check.dueAnswered("power 0", maker, 1, x -> x.form(1, 0, 0, 0));
        Check.dueAnswered("power 1", maker, 2, x -> x.form(1, 0, 0, 1));
        Check.dueAnswered("power 5", maker, 0, x -> x.form(1, 0, 1, 5));
        Check.dueAnswered("power 6", maker, 1, x -> x.form(1, 0, 1, 6));
    }

    static void promise13_propertiesZeroAndOne() {
        Check.dueRange("property", UNIT_ROWS, 0, 1, (x, k) -> x.form(14, 2, NONE, k));
        Supplier<PopovRows> maker = Given.busy("c3; r0,0,3; r5x6,0,0;");
        Check.dueAnswered("degree 0", maker, 0, x -> x.form(3, 0, NONE, 0));
        Check.dueAnswered("pivot 2", maker, 2, x -> x.form(3, 0, NONE, 1));
        Check.dueAnswered("degree 6", maker, 6, x -> x.form(3, 1, NONE, 0));
        Check.dueAnswered("pivot 0", maker, 0, x -> x.form(3, 1, NONE, 1));
    }

    static void promise13_badBeforeNoSuchRow() {
        Check.dueRefused("set", UNIT_ROWS, BAD, x -> x.form(32, 5, 0, 0));
        Check.dueRefused("column behind the last", UNIT_ROWS, BAD, x -> x.form(1, 5, 3, 0));
        Check.dueRefused("column below NONE", UNIT_ROWS, BAD, x -> x.form(1, 5, -2, 0));
        Check.dueRefused("power 7", UNIT_ROWS, BAD, x -> x.form(1, 5, 0, 7));
        Check.dueRefused("power -1", UNIT_ROWS, BAD, x -> x.form(1, 5, 0, -1));
        Check.dueRefused("property 2", UNIT_ROWS, BAD, x -> x.form(1, 5, NONE, 2));
        Check.dueRefused("property -1", UNIT_ROWS, BAD, x -> x.form(1, 5, NONE, -1));
        Check.dueRefused("property 6 of nothing", UNIT_ROWS, BAD, x -> x.form(0, 0, NONE, 6));
    }

    static void promise13_noRowsForEmptyAndZero() {
        Supplier<PopovRows> maker = Given.busy("c1; r0; r0;");
        for (int set = 0; set <= 3; set++) {
            int asked = set;
            Check.dueAnswered("set " + set, maker, NO_SUCH, x -> x.form(asked, 0, NONE, 0));
            Check.dueAnswered("set " + set, maker, NO_SUCH, x -> x.form(asked, 0, 0, 0));
        }
    }

    private static void dueForm(String text, int set, String want) {
        Check.dueText("form of " + text, View.form(Given.after(text), set), want);
    }

    static void promise13_eachLeadIsOne() {
        dueForm("c1; r3x6+5;", 1, "6@0(4000001)");
        dueForm("p5; c1; r4;", 1, "0@0(1)");
        dueForm("c2; r6x,2;", 1, "1@0(01,5)");
        dueForm("p3; c3; r2,2x,2x;", 1, "1@2(1,01,01)");
    }

    static void promise13_noZeroRowsAndNoEqualPivots() {
        dueForm("r0,0; rx,0; r0,0;", 7, "1@0(01,)");
        dueForm("r1,x; r1,x; r1,x; r1,x; r1,x;", 31, "1@1(1,01)");
        dueForm("r1,x; r2,x;", 3, "0@0(1,) 1@1(,01)");
        dueForm("c1; rx6; rx5; rx4; rx3; rx2;", 31, "2@0(001)");
    }

    static void promise13_entriesOfOtherRowsBelowTheDegree() {
        dueForm("rx,0; rx+3,x2;", 3, "1@0(01,) 2@1(3,001)");
        dueForm("rx2,0; rx+3,x2;", 3, "2@0(001,) 2@1(31,001)");
        dueForm("rx2,0; rx2+x+3,x2;", 3, "2@0(001,) 2@1(31,001)");
        dueForm("rx,x; rx,5;", 3, "1@0(01,5) 1@1(,21)");
        dueForm("r4,x; rx,5;", 3, "1@0(01,5) 1@1(4,01)");
        dueForm("c3; r1,0,x2; r0,x,0; rx,x2,x3;", 7, "1@1(,01,) 2@2(1,,001)");
    }

    static void promise13_aPivotOfDegreeZeroLeavesItsColumnZero() {
        dueForm("r2,0; rx6+x+1,x;", 3, "0@0(1,) 1@1(,01)");
        dueForm("c3; r0,0,5; r0,3,x6; r1,1,1;", 7, "0@0(1,,) 0@1(,1,) 0@2(,,1)");
    }

    static void promise13_ascendingDegreesThenPivots() {
        dueForm("c3; r0,0,x; r0,x,0; rx,0,0;", 7, "1@0(01,,) 1@1(,01,) 1@2(,,01)");
        dueForm("c3; r0,0,1; r0,x,0; rx6,0,0;", 7, "0@2(,,1) 1@1(,01,) 6@0(0000001,,)");
        dueForm("c3; r0,0,x; r0,x6,0; rx,0,0;", 7, "1@0(01,,) 1@2(,,01) 6@1(,0000001,)");
    }

    static void promise13_degreeSixInEachColumn() {
        dueForm("c3; r0,0,2x6+2x5; r0,3x6+3,0; r4x6,0,0;", 7,
                "6@0(0000001,,) 6@1(,1000001,) 6@2(,,0000011)");
    }

    // ---- 14: least

    static void promise14_setsOfEachCount() {
        for (int rows = 0; rows <= 5; rows++) {
            Check.dueRange("set of " + rows, Given.busyRows(1, rows), 0, (1 << rows) - 1, PopovRows::least);
        }
        for (int set : WRONG_SETS) {
            Check.dueRefused("set " + set, UNIT_ROWS, BAD, x -> x.least(set));
        }
    }

    static void promise14_zeroForNoRowsAndForDegreesZero() {
        Supplier<PopovRows> maker = Given.busy("c3; r0,0,0; r1,2,3; r0,1,5; r0,0,6;");
        Check.dueAnswered("empty", maker, 0, x -> x.least(0));
        Check.dueAnswered("zero", maker, 0, x -> x.least(1));
        Check.dueAnswered("degree 0", maker, 0, x -> x.least(2));
        Check.dueAnswered("all", maker, 0, x -> x.least(15));
    }

    static void promise14_upToEighteen() {
        Supplier<PopovRows> maker = Given.busy("c3; rx6,0,0; r0,x6,0; r0,0,x6; r0,0,1;");
        Check.dueAnswered("one", maker, 6, x -> x.least(1));
        Check.dueAnswered("two", maker, 12, x -> x.least(3));
        Check.dueAnswered("three", maker, 18, x -> x.least(7));
        Check.dueAnswered("four", maker, 12, x -> x.least(15));
    }

    // ---- 15: same

    static void promise15_bothSetsOfEachCount() {
        for (int rows = 0; rows <= 5; rows++) {
            int last = (1 << rows) - 1;
            Check.dueRange("set of " + rows, Given.busyRows(1, rows), 0, last, (x, set) -> x.same(set, last));
            Check.dueRange("other of " + rows, Given.busyRows(1, rows), 0, last, (x, other) -> x.same(0, other));
        }
        for (int set : WRONG_SETS) {
            Check.dueRefused("set " + set, UNIT_ROWS, BAD, x -> x.same(set, 1));
            Check.dueRefused("other " + set, UNIT_ROWS, BAD, x -> x.same(1, set));
            Check.dueRefused("both " + set, UNIT_ROWS, BAD, x -> x.same(set, set));
        }
    }

    static void promise15_eachSetAndItself() {
        for (int set = 0; set <= 31; set++) {
            int asked = set;
            Check.dueAnswered("set " + set, UNIT_ROWS, 1, x -> x.same(asked, asked));
        }
    }

    static void promise15_emptyAndZero() {
        Supplier<PopovRows> maker = Given.busy("r0,0; r0,0; r0,1;");
        Check.dueAnswered("empty and zero", maker, 1, x -> x.same(0, 3));
        Check.dueAnswered("zero and empty", maker, 1, x -> x.same(2, 0));
        Check.dueAnswered("zero and zero", maker, 1, x -> x.same(1, 2));
        Check.dueAnswered("empty and another", maker, 0, x -> x.same(0, 4));
        Check.dueAnswered("another and zero", maker, 0, x -> x.same(4, 3));
        Check.dueAnswered("a zero row more", maker, 1, x -> x.same(4, 7));
    }

    static void promise15_otherRowsOfTheSameModule() {
        Supplier<PopovRows> maker = Given.busy("r1,0; r0,1; r1,1; rx,6; r1,6;");
        Check.dueAnswered("without common rows", maker, 1, x -> x.same(3, 20));
        Check.dueAnswered("all", maker, 1, x -> x.same(3, 31));
        Check.dueAnswered("not quite all", maker, 0, x -> x.same(3, 12));
    }

    static void promise15_aDifferenceInOneNumber() {
        Check.dueAnswered("power 0", Given.busy("c1; rx6; rx6+1;"), 0, x -> x.same(1, 2));
        Check.dueAnswered("power 6", Given.busy("r1,x6; r1+x6,x6;"), 0, x -> x.same(1, 2));
        Check.dueAnswered("last column", Given.busy("c3; rx,0,0; rx,0,1;"), 0, x -> x.same(1, 2));
        Check.dueAnswered("first column", Given.busy("c3; r0,0,x; r1,0,x;"), 0, x -> x.same(1, 2));
        Check.dueAnswered("last row", Given.busy("r1,0; r0,x; r0,x+1;"), 0, x -> x.same(3, 5));
        Check.dueAnswered("only the lead", Given.busy("r2,x; r4,2x;"), 1, x -> x.same(1, 2));
    }

    static void promise15_aModuleInAnother() {
        Supplier<PopovRows> maker = Given.busy("c1; rx; rx2;");
        Check.dueAnswered("greater and smaller", maker, 0, x -> x.same(1, 2));
        Check.dueAnswered("smaller and greater", maker, 0, x -> x.same(2, 1));
        Check.dueAnswered("greater and both", maker, 1, x -> x.same(1, 3));
        Check.dueAnswered("smaller and both", maker, 0, x -> x.same(2, 3));
    }

    // ---- 16: rest

    static void promise16_rowsOfEachCount() {
        for (int rows = 0; rows <= 5; rows++) {
            Check.dueRange("row of " + rows, Given.busyRows(1, rows), 0, rows - 1, (x, i) -> x.rest(i, 0, 0, 0));
        }
    }

    static void promise16_setsOfTheRowsBefore() {
        dueSetsBefore((x, i, set) -> x.rest(i, set, 0, 0));
    }

    static void promise16_theRowItselfInTheSetIsBad() {
        dueBeside((x, i, set) -> x.rest(i, set, 0, 0));
    }

    static void promise16_columnsOfEachNumber() {
        for (int c = 1; c <= 3; c++) {
            Check.dueRange("column of " + c, Given.busyRows(c, 2), 0, c - 1, (x, at) -> x.rest(0, 2, at, 0));
        }
    }

    static void promise16_powersZeroToSix() {
        Check.dueRange("power", UNIT_ROWS, 0, 6, (x, k) -> x.rest(0, 6, 2, k));
        Supplier<PopovRows> maker = Given.busy("c2; r1,5x6+x+4; r2,0;");
        Check.dueAnswered("power 6", maker, 5, x -> x.rest(0, 2, 1, 6));
        Check.dueAnswered("power 5", maker, 0, x -> x.rest(0, 2, 1, 5));
        Check.dueAnswered("power 0", maker, 4, x -> x.rest(0, 2, 1, 0));
    }

    private static void dueRemainder(String what, String text, int i, int set, String want) {
        Check.dueText(what, View.remainder(Given.after(text), i, set), want);
    }

    static void promise16_byNothingTheRowStays() {
        dueRemainder("empty set", "c3; rx6+1,5,x2; r1,0,0;", 0, 0, "1000001,5,001");
        dueRemainder("zero row", "c3; rx6+1,5,x2; r0,0,0;", 0, 2, "1000001,5,001");
        dueRemainder("a zero row itself", "c3; r0,0,0; r1,0,0;", 0, 2, ",,");
        dueRemainder("a zero row by nothing", "c3; r0,0,0;", 0, 0, ",,");
    }

    static void promise16_degreesBelowTheDegreeOfThePivotStay() {
        String text = "c1; r2x3+x2; r5x2+x+1; rx3; rx6; r2x3+x2;";
        dueRemainder("degree 2", text, 1, 1, "115");
        dueRemainder("degree 3", text, 2, 1, "003");
        dueRemainder("degree 6", text, 3, 1, "004");
        dueRemainder("the same row", text, 4, 1, "");
        dueRemainder("by less", text, 0, 2, "12");
    }

    static void promise16_aPivotOfDegreeZeroLeavesZero() {
        dueRemainder("one column", "c1; rx6+x+3; r4;", 0, 2, "");
        dueRemainder("first column", "rx6+5,5x6; r3,0;", 0, 2, ",0000005");
        dueRemainder("last column", "rx6+5,5x6; r0,3;", 0, 2, "5000001,");
        dueRemainder("all columns", "c3; rx6,x5,x4; r1,0,0; r0,1,0; r0,0,1;", 0, 14, ",,");
    }

    static void promise16_onlyThePivotColumnsMatter() {
        dueRemainder("pivot 1", "r0,x2; rx,x2;", 0, 2, "06,");
        dueRemainder("great in the other column", "rx3,x; rx,x2;", 0, 2, "0001,01");
        dueRemainder("pivot 0", "rx2+1,x6; rx2,x;", 0, 2, "1,0600001");
    }

    // ---- 17: made

    static void promise17_rowsOfEachCount() {
        for (int rows = 0; rows <= 5; rows++) {
            Check.dueRange("row of " + rows, Given.busyRows(1, rows), 0, rows - 1, (x, i) -> x.made(i, 0));
        }
    }

    static void promise17_setsOfTheRowsBefore() {
        dueSetsBefore((x, i, set) -> x.made(i, set));
    }

    static void promise17_theRowItselfInTheSetIsBad() {
        dueBeside((x, i, set) -> x.made(i, set));
    }

    static void promise17_onlyTheZeroRowByNothing() {
        Supplier<PopovRows> maker = Given.busy("r0,0; r0,x; r0,0;");
        Check.dueAnswered("zero by the empty set", maker, 1, x -> x.made(0, 0));
        Check.dueAnswered("zero by zero", maker, 1, x -> x.made(0, 4));
        Check.dueAnswered("zero by another", maker, 1, x -> x.made(0, 2));
        Check.dueAnswered("another by the empty set", maker, 0, x -> x.made(1, 0));
        Check.dueAnswered("another by zero", maker, 0, x -> x.made(1, 5));
    }

    static void promise17_multiplesAndTheirNeighbours() {
        Supplier<PopovRows> maker = Given.busy("c1; rx3+1; r2x3+2; rx2; rx6+2x3+1; rx6+2x3+2;");
        Check.dueAnswered("twice", maker, 1, x -> x.made(1, 1));
        Check.dueAnswered("of less degree", maker, 0, x -> x.made(2, 1));
        Check.dueAnswered("its square", maker, 1, x -> x.made(3, 1));
        Check.dueAnswered("its square and 1", maker, 0, x -> x.made(4, 1));
        Check.dueAnswered("by all others", maker, 1, x -> x.made(4, 15));
    }

    static void promise17_aRestInAnyColumn() {
        Check.dueAnswered("first", Given.busy("c3; r1,0,0; r0,1,1; r0,0,1;"), 0, x -> x.made(0, 6));
        Check.dueAnswered("middle", Given.busy("c3; r0,1,0; r1,0,1; r0,0,1;"), 0, x -> x.made(0, 6));
        Check.dueAnswered("last", Given.busy("c3; r0,0,x; r1,0,0; r0,1,0;"), 0, x -> x.made(0, 6));
        Check.dueAnswered("none", Given.busy("c3; r1,0,x; r1,0,0; r0,0,1;"), 1, x -> x.made(0, 6));
    }

    // ---- 18: factor

    static void promise18_rowsOfEachCount() {
        for (int rows = 1; rows <= 5; rows++) {
            int last = rows - 1;
            Check.dueRange("row of " + rows, Given.busyRows(1, rows), 0, rows - 2,
                    (x, i) -> x.factor(i, 1 << last, last, 0));
        }
        Check.dueBadBeside("row of none", Given.busyRows(1, 0), 0, -1, (x, i) -> x.factor(i, 0, 0, 0));
    }

    static void promise18_onlyRowsOfTheSetHaveCofactors() {
        Check.dueRange("j", UNIT_ROWS, 1, 3, (x, j) -> x.factor(0, 14, j, 0));
        Check.dueRange("only one", UNIT_ROWS, 3, 3, (x, j) -> x.factor(4, 8, j, 0));
        Check.dueRefused("between two", UNIT_ROWS, BAD, x -> x.factor(4, 10, 2, 0));
    }

    static void promise18_theEmptySetHasNoCofactors() {
        Supplier<PopovRows> maker = Given.busy("r0,0; r1,1;");
        Check.dueBadBeside("j", maker, 0, -1, (x, j) -> x.factor(0, 0, j, 0));
        Check.dueRefused("the zero row", maker, BAD, x -> x.factor(0, 0, 1, 0));
        Check.dueRefused("row 0 itself", maker, BAD, x -> x.factor(0, 0, 0, 0));
    }

    static void promise18_wrongSetsAreBad() {
        for (int set : WRONG_SETS) {
            Check.dueRefused("set " + set, UNIT_ROWS, BAD, x -> x.factor(4, set, 0, 0));
        }
        Check.dueRefused("with row i", UNIT_ROWS, BAD, x -> x.factor(0, 15, 1, 0));
        Check.dueRefused("only row i", UNIT_ROWS, BAD, x -> x.factor(0, 1, 0, 0));
        Check.dueRefused("the first bit that is no row", Given.busyRows(1, 2), BAD, x -> x.factor(0, 4, 2, 0));
        Check.dueRefused("and one that is", Given.busyRows(1, 2), BAD, x -> x.factor(0, 6, 1, 0));
    }

    static void promise18_powersZeroToTwentyFour() {
        Check.dueRange("power", UNIT_ROWS, 0, 24, (x, k) -> x.factor(0, 14, 3, k));
        Supplier<PopovRows> maker = Given.busy("c1; rx6; r1;");
        Check.dueAnswered("power 5", maker, 0, x -> x.factor(0, 2, 1, 5));
        Check.dueAnswered("power 6", maker, 1, x -> x.factor(0, 2, 1, 6));
        Check.dueAnswered("power 7", maker, 0, x -> x.factor(0, 2, 1, 7));
    }

    static void promise18_degreeEighteenIsReached() {
        String text = "c3; r1,x6,0; r0,1,x6; r0,0,1; rx6,0,0;";
        PopovRows x = Given.after(text);
        Check.dueText("of row 0", View.cofactor(x, 3, 7, 0), "0000001");
        Check.dueText("of row 1", View.cofactor(x, 3, 7, 1), "0000000000006");
        Check.dueText("of row 2", View.cofactor(x, 3, 7, 2), "0000000000000000001");
    }

    static void promise18_notGeneratedIsNo() {
        Check.dueRefused("of less degree", Given.busy("c1; rx; rx2;"), NO, x -> x.factor(0, 2, 1, 0));
        Check.dueRefused("another column", Given.busy("r1,0; r0,1;"), NO, x -> x.factor(0, 2, 1, 24));
        Check.dueRefused("one number off", Given.busy("c3; r1,2,3; r1,2,4;"), NO, x -> x.factor(0, 2, 1, 0));
    }

    static void promise18_aRankBelowTheNumberOfRowsIsNo() {
        Check.dueRefused("a multiple in the set", UNIT_ROWS, NO, x -> x.factor(0, 30, 1, 0));
        Check.dueRefused("a zero row in the set", Given.busy("r1,1; r1,1; r0,0;"), NO, x -> x.factor(0, 6, 1, 0));
        Check.dueRefused("of a zero row", Given.busy("r0,0; r1,1; r2,2;"), NO, x -> x.factor(0, 6, 1, 0));
        Check.dueRefused("by a zero row", Given.busy("r0,0; r0,0;"), NO, x -> x.factor(0, 2, 1, 0));
        Check.dueRefused("four rows, three columns", UNIT_ROWS, NO, x -> x.factor(3, 23, 0, 0));
        Check.dueRefused("not generated either", Given.busy("r0,1; r1,0; r2,0;"), NO, x -> x.factor(0, 6, 1, 0));
    }

    static void promise18_badBeforeNo() {
        Supplier<PopovRows> maker = Given.busy("r0,1; r1,0; r2,0;");
        Check.dueRefused("NO", maker, NO, x -> x.factor(0, 6, 1, 24));
        Check.dueRefused("power 25", maker, BAD, x -> x.factor(0, 6, 1, 25));
        Check.dueRefused("power -1", maker, BAD, x -> x.factor(0, 6, 1, -1));
        Check.dueRefused("row j not in the set", maker, BAD, x -> x.factor(0, 2, 2, 0));
        Check.dueRefused("row i in the set", maker, BAD, x -> x.factor(0, 7, 1, 0));
        Check.dueRefused("no such row i", maker, BAD, x -> x.factor(3, 6, 1, 0));
        Check.dueRefused("no such row in the set", maker, BAD, x -> x.factor(0, 14, 1, 0));
    }

    static void promise18_aZeroRowHasZeroCofactors() {
        Supplier<PopovRows> maker = Given.busy("r0,0; r1,x; rx,1;");
        for (int j = 1; j <= 2; j++) {
            Check.dueText("row " + j, View.cofactor(maker.get(), 0, 6, j), "");
        }
    }

    static void promise18_theSumIsTheRow() {
        PopovRows x = Given.after("p5; rx2+1,x; r1,x+3; r0,0; x2; r3x2+x+4,x2+2x+3;");
        Check.dueText("of row 0", View.cofactor(x, 2, 3, 0), "3");
        Check.dueText("of row 1", View.cofactor(x, 2, 3, 1), "11");
        Check.dueAnswered("the numbers are not negative", Given.busy("c1; r4; r1;"), 4, y -> y.factor(0, 2, 1, 0));
    }

    // ---- 19: det

    static void promise19_justCRowsOrNo() {
        for (int c = 1; c <= 3; c++) {
            Supplier<PopovRows> maker = Given.busyRows(c, 5);
            for (int set = 0; set <= 31; set++) {
                int asked = set;
                if (Integer.bitCount(set) == c) {
                    Check.dueAllowed(c + " columns, set " + set, maker, x -> x.det(asked, 0));
                } else {
                    Check.dueRefused(c + " columns, set " + set, maker, NO, x -> x.det(asked, 0));
                    Check.dueRefused(c + " columns, degree of " + set, maker, NO, x -> x.det(asked, NONE));
                }
            }
        }
    }

    static void promise19_rowsThatAreNotThereAreBad() {
        for (int rows = 0; rows <= 5; rows++) {
            Check.dueBadBeside("set of " + rows, Given.busyRows(1, rows), 0, (1 << rows) - 1, (x, set) -> x.det(set, 0));
        }
        for (int set : WRONG_SETS) {
            Check.dueRefused("set " + set, UNIT_ROWS, BAD, x -> x.det(set, 0));
        }
    }

    static void promise19_powersNoneToEighteen() {
        for (int c = 1; c <= 3; c++) {
            int set = (1 << c) - 1;
            Check.dueRange("power, " + c + " columns", Given.busyRows(c, 3), NONE, 18, (x, k) -> x.det(set, k));
        }
    }

    static void promise19_badBeforeNo() {
        Check.dueRefused("NO", UNIT_ROWS, NO, x -> x.det(3, 18));
        Check.dueRefused("power 19", UNIT_ROWS, BAD, x -> x.det(3, 19));
        Check.dueRefused("power -2", UNIT_ROWS, BAD, x -> x.det(3, -2));
        Check.dueRefused("no such row", UNIT_ROWS, BAD, x -> x.det(32, 0));
        Check.dueRefused("no such row, C bits", UNIT_ROWS, BAD, x -> x.det(35, 0));
    }

    private static void dueDeterminant(String text, int set, String want) {
        Check.dueText("determinant of " + text, View.determinant(Given.after(text), set), want);
    }

    static void promise19_noneIfItIsZero() {
        dueDeterminant("c1; r0;", 1, "-1:");
        dueDeterminant("r1,x; r2,2x;", 3, "-1:");
        dueDeterminant("c3; r1,0,0; r0,1,0; r1,1,0;", 7, "-1:");
        dueDeterminant("p2; r1,1; r1,3;", 3, "-1:");
        Check.dueAnswered("no error", Given.busy("c1; r0;"), NONE, x -> x.det(1, NONE));
    }

    static void promise19_degreesZeroToEighteen() {
        dueDeterminant("c1; r5;", 1, "0:5");
        dueDeterminant("c1; r5x6;", 1, "6:0000005");
        dueDeterminant("r1,x; rx,x2+1;", 3, "0:1");
        dueDeterminant("r2x6,1; r1,x6;", 3, "12:6000000000002");
        dueDeterminant("c3; rx6,0,0; r0,2x6,0; r1,0,x6;", 7, "18:0000000000000000002");
        dueDeterminant("c3; r1,0,0; r0,1,0; r0,0,6;", 7, "0:6");
    }

    static void promise19_rowsInAscendingOrder() {
        String text = "r0,1; r1,0; r0,0; r0,1; r1,0;";
        dueDeterminant(text, 3, "0:6");
        dueDeterminant(text, 10, "0:1");
        dueDeterminant(text, 17, "0:6");
        dueDeterminant(text, 18, "-1:");
        dueDeterminant("p2; " + text, 3, "0:1");
    }

    static void promise19_eachOrderOfThreeColumns() {
        dueDeterminant("c3; r1,0,0; r0,1,0; r0,0,x;", 7, "1:01");
        dueDeterminant("c3; r0,1,0; r0,0,1; rx,0,0;", 7, "1:01");
        dueDeterminant("c3; r0,0,1; r1,0,0; r0,x,0;", 7, "1:01");
        dueDeterminant("c3; r0,1,0; r1,0,0; r0,0,x;", 7, "1:06");
        dueDeterminant("c3; r1,0,0; r0,0,1; r0,x,0;", 7, "1:06");
        dueDeterminant("c3; r0,0,1; r0,1,0; rx,0,0;", 7, "1:06");
    }

    // ---- 20: quotient

    private static final Supplier<PopovRows> PADE_ROWS = Given.busy("r1+x+x2+x3+x4+x5+x6,x6; r0,1+x;");

    static void promise20_rowsOfEachCount() {
        for (int rows = 0; rows <= 5; rows++) {
            Check.dueRange("row of " + rows, Given.busyRows(1, rows), 0, rows - 1, (x, i) -> x.quotient(i, 0, 3, 0, 0));
        }
    }

    static void promise20_columnsOfEachNumber() {
        for (int c = 1; c <= 3; c++) {
            Check.dueRange("column of " + c, Given.busyRows(c, 1), 0, c - 1, (x, at) -> x.quotient(0, at, 7, 1, 0));
        }
    }

    static void promise20_nOneToSeven() {
        Check.dueRange("n", PADE_ROWS, 1, 7, (x, n) -> x.quotient(0, 0, n, 0, 0));
        String[] zero = {"/1", "/1", "/1", "/1", "/1", "/1", "/01"};
        String[] sum = {"1/1", "11/1", "6/61", "6/61", "6/61", "6/61", "6/61"};
        for (int n = 1; n <= 7; n++) {
            Check.dueText("of x^6, n " + n, View.pade(PADE_ROWS.get(), 0, 1, n), zero[n - 1]);
            Check.dueText("of the sum, n " + n, View.pade(PADE_ROWS.get(), 0, 0, n), sum[n - 1]);
        }
    }

    static void promise20_whatZeroAndOne() {
        Check.dueRange("what", PADE_ROWS, 0, 1, (x, what) -> x.quotient(0, 0, 7, what, 0));
        Check.dueAnswered("N", PADE_ROWS, 6, x -> x.quotient(0, 0, 7, 0, 0));
        Check.dueAnswered("D", PADE_ROWS, 1, x -> x.quotient(0, 0, 7, 1, 1));
    }

    static void promise20_powersZeroToSeven() {
        Check.dueRange("power of N", PADE_ROWS, 0, 7, (x, k) -> x.quotient(0, 0, 7, 0, k));
        Check.dueRange("power of D", PADE_ROWS, 0, 7, (x, k) -> x.quotient(0, 0, 1, 1, k));
    }

    static void promise20_zeroHasNZeroAndDOne() {
        for (int n = 1; n <= 7; n++) {
            Check.dueText("n " + n, View.pade(Given.after("c1; r0;"), 0, 0, n), "/1");
            Check.dueText("x^n, n " + n, View.pade(PADE_ROWS.get(), 1, 0, n), "/1");
        }
    }

    static void promise20_equalDegreesTakeTheFirstPivot() {
        Check.dueText("n 2", View.pade(PADE_ROWS.get(), 1, 1, 2), "11/1");
        Check.dueText("n 2 modulo 2", View.pade(Given.after("p2; c1; r1+x;"), 0, 0, 2), "11/1");
    }

    static void promise20_whateverCIs() {
        for (int c = 1; c <= 3; c++) {
            String text = "c" + c + "; r" + Given.repeated("0,", c - 1) + "1+x+x2+x3+x4+x5+x6;";
            Check.dueText(c + " columns", View.pade(Given.after(text), 0, c - 1, 7), "6/61");
        }
    }

    static void promise20_nIsDTimesFBelowThePowerN() {
        String[] polynomials = {"1", "x", "3x6+x+2", "x6+x5+x4+5", "2x3+6x2+x+1", "5x5+3", "6x6+6x3+x2+2x+4", "x4+4x2"};
        for (int p : Given.PRIMES) {
            for (String f : polynomials) {
                PopovRows x = Given.after("p" + p + "; c3; r0," + f + ",1;");
                for (int n = 1; n <= 7; n++) {
                    duePade(x, p, n, "modulo " + p + ", f " + f + ", n " + n);
                }
            }
        }
    }

    /** The row 0 has f in its column 1. */
    private static void duePade(PopovRows x, int p, int n, String what) {
        int numbers = 0;
        for (int k = 0; k < n; k++) {
            int sum = 0;
            for (int a = 0; a <= k; a++) {
                sum += x.quotient(0, 1, n, 1, a) * x.of(0, 1, k - a);
            }
            Check.due(what + ", power " + k, x.quotient(0, 1, n, 0, k), sum % p);
            numbers += x.quotient(0, 1, n, 1, k);
        }
        Check.due(what + ": D is not 0", numbers > 0 ? 1 : 0, 1);
    }

    public static void main(String[] args) {
        Check.runAll(FormEdgesTest.class);
    }
}
