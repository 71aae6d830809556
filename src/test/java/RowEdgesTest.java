import java.util.function.Supplier;

/** Promises 1 to 11 at their edges: a test for each sentence that names one, by promise and case. */
public final class RowEdgesTest {
    private static final int BAD = Check.BAD;
    private static final int NO = Check.NO;
    private static final int FULL = Check.FULL;
    private static final int NONE = Check.NONE;
    private static final int LEAST = Check.LEAST;
    private static final int MOST = Check.MOST;

    private static final Supplier<PopovRows> TWO_ROWS = Given.busy("p5; c2; r1+2x,3x6; r4,x2;");
    private static final Supplier<PopovRows> NO_ROWS = Given.busy("p5; c3;");

    // ---- 1: a new object

    static void promise01_pIsSeven() {
        PopovRows x = new PopovRows();
        Check.due("told(4)", x.told(4), 7);
        x.row();
        x.sets(0, 0, 0, -1);
        Check.due("-1 modulo p", x.of(0, 0, 0), 6);
    }

    static void promise01_twoColumns() {
        PopovRows x = new PopovRows();
        Check.due("told(5)", x.told(5), 2);
        x.row();
        Check.due("column 1", x.of(0, 1, 0), 0);
        Check.due("column 2", x.of(0, 2, 0), BAD);
    }

    static void promise01_noRows() {
        PopovRows x = new PopovRows();
        Check.due("told(6)", x.told(6), 0);
        Check.due("row 0", x.about(0, 0), BAD);
        Check.due("the empty set", x.rank(0), 0);
        Check.due("a set with row 0", x.rank(1), BAD);
        Check.due("the first row", x.row(), 0);
    }

    static void promise01_emptyText() {
        PopovRows x = new PopovRows();
        Check.due("told(3)", x.told(3), 0);
        Check.due("clear", x.clear(), 0);
        Check.due("reads", x.reads(), -10);
        Check.due("the first byte", x.type('p'), 1);
    }

    static void promise01_nothingKeptNorCounted() {
        PopovRows x = new PopovRows();
        Check.dueText("totals", View.totals(x), "0 0 0 0 0");
        Check.due("back", x.back(), NO);
    }

    static void promise01_noStop() {
        PopovRows x = new PopovRows();
        Check.due("why(0)", x.why(0), 0);
        Check.due("why(1)", x.why(1), NONE);
    }

    static void promise01_objectsShareNothing() {
        long asNew = new PopovRows().digest();
        PopovRows x = TWO_ROWS.get();
        PopovRows y = new PopovRows();
        Check.due("made behind another", y.digest(), asNew);
        y.prime(3);
        y.columns(1);
        y.row();
        Given.reads(x, "r1,1;m9;");
        x.sets(0, 0, 0, 3);
        Check.dueText("the one", View.state(x), "5/2 (32,0000003) (4,001)");
        Check.dueText("the other", View.state(y), "3/1 ()");
        Check.dueText("totals of the other", View.totals(y), "0 0 0 0 3");
        Check.due("why of the other", y.why(0), 0);
    }

    static void promise01_theConstants() {
        Check.due("NONE", PopovRows.NONE, -1);
        Check.due("BAD", PopovRows.BAD, -2);
        Check.due("NO", PopovRows.NO, -3);
        Check.due("FULL", PopovRows.FULL, -4);
    }

    // ---- 2: prime

    static void promise02_eachPrimeBehindEachOther() {
        for (int from : Given.PRIMES) {
            for (int to : Given.PRIMES) {
                PopovRows x = new PopovRows();
                Check.due("7 to " + from, x.prime(from), 7);
                Check.due(from + " to " + to, x.prime(to), from);
                Check.due("p", x.told(4), to);
            }
        }
    }

    static void promise02_otherNumbersAreBad() {
        Check.dueBadBeside("p", TWO_ROWS, 2, 7, PopovRows::prime);
        int[] near = {0, 1, 4, 6, 8, 9, 10, 11, 13, -2, -3, -5, -7, 258, 259, 261, 263, 65536 + 7};
        for (int p : near) {
            Check.dueRefused("p " + p, TWO_ROWS, BAD, x -> x.prime(p));
        }
    }

    static void promise02_removesEachNumberOfRows() {
        for (int rows = 0; rows <= 5; rows++) {
            for (int p : Given.PRIMES) {
                PopovRows x = Given.busyRows(1, rows).get();
                x.prime(p);
                Check.due(rows + " rows, then p " + p, x.told(6), 0);
                Check.due("row 0 then", x.about(0, 0), BAD);
                Check.due("the next row is the first", x.row(), 0);
            }
        }
    }

    static void promise02_columnsAndTextStay() {
        for (int c = 1; c <= 3; c++) {
            PopovRows x = Given.busyRows(c, 2).get();
            int length = x.told(3);
            x.prime(3);
            Check.due("C", x.told(5), c);
            Check.due("text", x.told(3), length);
            Check.due("why", x.why(0), 3);
        }
    }

    static void promise02_keepsTheStateThoughTheSame() {
        for (int p : Given.PRIMES) {
            Check.dueKept("p " + p, TWO_ROWS, x -> x.prime(p));
            Check.dueKept("without rows, p " + p, NO_ROWS, x -> x.prime(p));
        }
    }

    static void promise02_numbersAreZeroToPMinusOne() {
        for (int p : Given.PRIMES) {
            PopovRows x = new PopovRows();
            x.prime(p);
            x.row();
            x.sets(0, 0, 0, p - 1);
            x.sets(0, 0, 1, p);
            Check.due("p - 1 modulo " + p, x.of(0, 0, 0), p - 1);
            Check.due("p modulo " + p, x.of(0, 0, 1), 0);
        }
    }

    // ---- 3: columns

    static void promise03_oneToThree() {
        Check.dueKeptRange("C", TWO_ROWS, 1, 3, PopovRows::columns);
        Check.dueKeptRange("C without rows", NO_ROWS, 1, 3, PopovRows::columns);
    }

    static void promise03_eachNumberBehindEachOther() {
        for (int from = 1; from <= 3; from++) {
            for (int to = 1; to <= 3; to++) {
                PopovRows x = new PopovRows();
                Check.due("2 to " + from, x.columns(from), 2);
                Check.due(from + " to " + to, x.columns(to), from);
                Check.due("C", x.told(5), to);
                x.row();
                Check.due("the last column", x.of(0, to - 1, 6), 0);
                Check.due("behind the last column", x.of(0, to, 6), BAD);
            }
        }
    }

    static void promise03_removesEachNumberOfRows() {
        for (int rows = 0; rows <= 5; rows++) {
            for (int c = 1; c <= 3; c++) {
                PopovRows x = Given.busyRows(2, rows).get();
                x.columns(c);
                Check.due(rows + " rows, then C " + c, x.told(6), 0);
                Check.due("row 0 then", x.about(0, 0), BAD);
                Check.due("the next row is the first", x.row(), 0);
            }
        }
    }

    static void promise03_primeStays() {
        for (int p : Given.PRIMES) {
            PopovRows x = Given.after("p" + p + "; r1,1;");
            x.columns(3);
            Check.due("p", x.told(4), p);
        }
    }

    static void promise03_backBringsTheOtherColumns() {
        PopovRows x = Given.after("c3; r1,x,2x6; r0,0,3;");
        x.columns(1);
        x.row();
        x.sets(0, 0, 6, 5);
        x.back();
        x.back();
        Check.dueText("one column", View.state(x), "7/1");
        x.back();
        Check.dueText("three columns", View.state(x), "7/3 (1,01,0000002) (,,3)");
    }

    // ---- 4: row

    static void promise04_zeroToFourThenFull() {
        for (int c = 1; c <= 3; c++) {
            PopovRows x = new PopovRows();
            x.columns(c);
            for (int i = 0; i <= 4; i++) {
                Check.due("number with " + c + " columns", x.row(), i);
            }
            Check.dueAll("behind the fifth", FULL, x.row(), x.row());
            Check.due("rows", x.told(6), 5);
            Check.due("counted", x.told(2), 2);
        }
    }

    static void promise04_fullChangesNothing() {
        for (int c = 1; c <= 2; c++) {
            Check.dueRefused("the sixth row", Given.busyRows(c, 5), FULL, PopovRows::row);
        }
    }

    static void promise04_keepsTheState() {
        for (int rows = 0; rows <= 4; rows++) {
            Check.dueKept("behind " + rows, Given.busyRows(1, rows), PopovRows::row);
        }
    }

    static void promise04_theNewRowIsZero() {
        PopovRows x = Given.after("c3; rx6,x6,x6; r1,1,1; r1,1,1; r1,1,1; r6+6x6,6,6;");
        x.drops(4);
        Check.due("number", x.row(), 4);
        Check.dueAll("entries", 0, x.of(4, 0, 0), x.of(4, 0, 6), x.of(4, 1, 0), x.of(4, 2, 0), x.of(4, 2, 6));
        Check.due("degree", x.about(4, 0), NONE);
        PopovRows y = Given.after("c2; rx6+1,x6+1;");
        y.prime(5);
        y.row();
        Check.dueText("behind prime", View.state(y), "5/2 (,)");
        y.back();
        y.back();
        y.columns(3);
        y.row();
        Check.dueText("behind columns", View.state(y), "7/3 (,,)");
        y.back();
        y.back();
        y.back();
        y.row();
        Check.dueText("behind back", View.state(y), "7/2 (,)");
    }

    static void promise04_roomAgainBehindDrops() {
        PopovRows x = Given.busyRows(1, 5).get();
        Check.due("full", x.row(), FULL);
        x.drops(0);
        Check.due("room for one", x.row(), 4);
        Check.due("full again", x.row(), FULL);
    }

    // ---- 5: sets

    static void promise05_rowsOfEachCount() {
        for (int rows = 0; rows <= 5; rows++) {
            Check.dueKeptRange("row of " + rows, Given.busyRows(1, rows), 0, rows - 1, (x, i) -> x.sets(i, 0, 0, 2));
        }
    }

    static void promise05_columnsOfEachNumber() {
        for (int c = 1; c <= 3; c++) {
            Check.dueKeptRange("column of " + c, Given.busyRows(c, 1), 0, c - 1, (x, at) -> x.sets(0, at, 0, 2));
        }
    }

    static void promise05_powersZeroToSix() {
        Check.dueKeptRange("power", TWO_ROWS, 0, 6, (x, k) -> x.sets(1, 1, k, 3));
        Check.dueKeptRange("power", TWO_ROWS, 0, 6, (x, k) -> x.sets(0, 0, k, 3));
        PopovRows x = Given.after("r0,0;");
        x.sets(0, 1, 0, 1);
        Check.due("degree 0", x.about(0, 0), 0);
        x.sets(0, 1, 6, 1);
        Check.due("degree 6", x.about(0, 0), 6);
    }

    static void promise05_anyIntModuloP() {
        for (int p : Given.PRIMES) {
            int[] numbers = {LEAST, LEAST + 1, -2 * p, -p - 1, -p, 1 - p, -1, 0, 1, p - 1, p, p + 1, 2 * p, MOST - 1, MOST};
            for (int v : numbers) {
                PopovRows x = Given.after("p" + p + "; r1,1;");
                Check.due("the first answer", x.sets(0, 0, 4, v), 0);
                long want = (((long) v) % p + p) % p;
                Check.due(v + " modulo " + p, x.of(0, 0, 4), want);
            }
        }
    }

    static void promise05_theLeastAndTheGreatestInt() {
        int[][] want = {{2, 0, 1}, {3, 1, 1}, {5, 2, 2}, {7, 5, 1}};
        for (int[] due : want) {
            PopovRows x = Given.after("p" + due[0] + "; r0,0;");
            x.sets(0, 0, 0, LEAST);
            x.sets(0, 1, 6, MOST);
            Check.due("the least modulo " + due[0], x.of(0, 0, 0), due[1]);
            Check.due("the greatest modulo " + due[0], x.of(0, 1, 6), due[2]);
        }
    }

    static void promise05_previousNumberIsReturned() {
        for (int p : Given.PRIMES) {
            PopovRows x = Given.after("p" + p + "; r0,0;");
            Check.due("zero", x.sets(0, 1, 3, -1), 0);
            Check.due("the greatest", x.sets(0, 1, 3, p), p - 1);
            Check.due("zero again", x.sets(0, 1, 3, 0), 0);
        }
    }

    static void promise05_keptThoughTheSame() {
        Check.dueKept("the same number", TWO_ROWS, x -> x.sets(0, 0, 1, 2));
        Check.dueKept("the same modulo p", TWO_ROWS, x -> x.sets(0, 0, 1, -3));
        Check.dueKept("zero to zero", TWO_ROWS, x -> x.sets(0, 0, 5, 0));
    }

    static void promise05_onlyItsPlaceChanges() {
        String rows = "c3; r1+x6,1+x6,1+x6; r1+x6,1+x6,1+x6; r1+x6,1+x6,1+x6; r1+x6,1+x6,1+x6; r1+x6,1+x6,1+x6;";
        int[][] corners = {{0, 0, 0}, {0, 0, 6}, {0, 2, 6}, {2, 1, 0}, {4, 0, 0}, {4, 2, 0}, {4, 2, 6}};
        for (int[] corner : corners) {
            PopovRows x = Given.after(rows);
            x.sets(corner[0], corner[1], corner[2], 5);
            int others = 0;
            for (int i = 0; i < 5; i++) {
                for (int c = 0; c < 3; c++) {
                    others += x.of(i, c, 0) + x.of(i, c, 6);
                }
            }
            Check.due("the place", x.of(corner[0], corner[1], corner[2]), 5);
            Check.due("the sum with the others", others, 5 + 29);
        }
    }

    // ---- 6: drops

    static void promise06_rowsOfEachCount() {
        for (int rows = 0; rows <= 5; rows++) {
            Check.dueKeptRange("row of " + rows, Given.busyRows(1, rows), 0, rows - 1, PopovRows::drops);
        }
    }

    static void promise06_leftFromFourToZero() {
        for (int c = 1; c <= 3; c++) {
            PopovRows x = Given.busyRows(c, 5).get();
            for (int left = 4; left >= 0; left--) {
                Check.due("left", x.drops(left / 2), left);
                Check.due("rows", x.told(6), left);
            }
            Check.due("none is left", x.drops(0), BAD);
        }
    }

    static void promise06_theRowsBehindMoveUp() {
        String[] want = {"7/1 (01) (001) (0001) (00001)", "7/1 (1) (001) (0001) (00001)", "7/1 (1) (01) (0001) (00001)",
            "7/1 (1) (01) (001) (00001)", "7/1 (1) (01) (001) (0001)"};
        for (int i = 0; i < 5; i++) {
            PopovRows x = Given.after("c1; r1; rx; rx2; rx3; rx4;");
            Check.due("left", x.drops(i), 4);
            Check.dueText("without row " + i, View.state(x), want[i]);
            Check.due("no row 4", x.of(4, 0, 0), BAD);
        }
    }

    static void promise06_wholeRowsMoveInThreeColumns() {
        PopovRows x = Given.after("c3; r1,0,0; rx6,2x6,3x6; r4,5,6;");
        x.drops(0);
        Check.dueText("the first", View.state(x), "7/3 (0000001,0000002,0000003) (4,5,6)");
        x.drops(1);
        Check.dueText("the last", View.state(x), "7/3 (0000001,0000002,0000003)");
    }

    // ---- 7: steps

    static void promise07_targetsOfEachCount() {
        for (int rows = 0; rows <= 5; rows++) {
            int last = rows - 1;
            Check.dueKeptRange("i of " + rows, Given.busyRows(1, rows), 0, rows - 2, (x, i) -> x.steps(i, last, 1, 0));
        }
    }

    static void promise07_sourcesOfEachCount() {
        for (int rows = 1; rows <= 5; rows++) {
            Check.dueKeptRange("j of " + rows, Given.busyRows(1, rows), 1, rows - 1, (x, j) -> x.steps(0, j, 1, 0));
        }
    }

    static void promise07_aRowByItselfIsBad() {
        for (int i = 0; i < 2; i++) {
            int row = i;
            Check.dueRefused("row " + i, TWO_ROWS, BAD, x -> x.steps(row, row, 1, 0));
            Check.dueRefused("no times", TWO_ROWS, BAD, x -> x.steps(row, row, 0, 0));
            Check.dueRefused("a zero row", Given.busy("r0,0; r0,0;"), BAD, x -> x.steps(row, row, 1, 1));
        }
    }

    static void promise07_numbersZeroToSix() {
        for (int p : Given.PRIMES) {
            Supplier<PopovRows> maker = Given.busy("p" + p + "; c2; r0,x; r1,1;");
            Check.dueKeptRange("c modulo " + p, maker, 0, 6, (x, c) -> x.steps(0, 1, c, 0));
            for (int c = 0; c <= 6; c++) {
                PopovRows x = maker.get();
                x.steps(0, 1, c, 3);
                Check.due(c + " modulo " + p, x.of(0, 0, 3), c % p);
            }
        }
    }

    static void promise07_powersZeroToSix() {
        Supplier<PopovRows> maker = Given.busy("c2; r0,0; r1,0;");
        Check.dueKeptRange("k", maker, 0, 6, (x, k) -> x.steps(0, 1, 1, k));
        for (int k = 0; k <= 6; k++) {
            PopovRows x = maker.get();
            Check.due("degree", x.steps(0, 1, 3, k), k);
            Check.due("number", x.of(0, 0, k), 3);
        }
    }

    static void promise07_degreeSixIsTheLast() {
        for (int degree = 1; degree <= 6; degree++) {
            int most = 6 - degree;
            Supplier<PopovRows> maker = Given.busy("c2; r1,1; r2,2x" + degree + ";");
            Check.dueKept("degree 6", maker, x -> x.steps(0, 1, 1, most));
            Check.due("the answer", maker.get().steps(0, 1, 1, most), 6);
            Check.dueRefused("degree 7", maker, FULL, x -> x.steps(0, 1, 1, most + 1));
            Check.dueRefused("more than that", maker, FULL, x -> x.steps(0, 1, 6, 6));
        }
    }

    static void promise07_fullThoughOnlyOneColumnIsTooGreat() {
        Check.dueRefused("the first column", Given.busy("c3; rx6,0,0; rx6,1,0;"), FULL, x -> x.steps(0, 1, 6, 1));
        Check.dueRefused("the last column", Given.busy("c3; r0,0,x6; r0,1,x6;"), FULL, x -> x.steps(0, 1, 6, 1));
    }

    static void promise07_badBeforeFull() {
        Supplier<PopovRows> maker = Given.busy("rx6,1; rx6,2;");
        Check.dueRefused("full", maker, FULL, x -> x.steps(0, 1, 1, 6));
        Check.dueRefused("a row by itself", maker, BAD, x -> x.steps(1, 1, 1, 6));
        Check.dueRefused("c", maker, BAD, x -> x.steps(0, 1, 7, 6));
        Check.dueRefused("k", maker, BAD, x -> x.steps(0, 1, 1, 7));
        Check.dueRefused("i", maker, BAD, x -> x.steps(2, 1, 1, 6));
    }

    static void promise07_zeroTimesIsNeverFull() {
        int[][] pairs = {{2, 0}, {2, 2}, {2, 4}, {2, 6}, {3, 0}, {3, 3}, {3, 6}, {5, 0}, {5, 5}, {7, 0}};
        for (int[] pair : pairs) {
            Supplier<PopovRows> maker = Given.busy("p" + pair[0] + "; r1,x4; r1,x6;");
            Check.due("degree", maker.get().steps(0, 1, pair[1], 6), 4);
            Check.dueKept(pair[1] + " modulo " + pair[0], maker, x -> x.steps(0, 1, pair[1], 6));
        }
        Check.dueRefused("once", Given.busy("p2; r1,x4; r1,x6;"), FULL, x -> x.steps(0, 1, 1, 6));
        Check.dueRefused("6 is not 0 modulo 5", Given.busy("p5; r1,x4; r1,x6;"), FULL, x -> x.steps(0, 1, 6, 6));
    }

    static void promise07_aZeroRowIsNeverFull() {
        Supplier<PopovRows> maker = Given.busy("rx6,x6; r0,0; r0,0;");
        Check.due("onto degree 6", maker.get().steps(0, 1, 6, 6), 6);
        Check.due("onto zero", maker.get().steps(2, 1, 6, 6), NONE);
        Check.dueKept("kept", maker, x -> x.steps(0, 1, 6, 6));
        Check.dueKept("kept, zero onto zero", maker, x -> x.steps(2, 1, 6, 6));
    }

    static void promise07_noneIfTheRowIsZeroThen() {
        for (int p : Given.PRIMES) {
            Supplier<PopovRows> maker = Given.busy("p" + p + "; rx3+1,x6; rx3+1,x6;");
            Check.due("modulo " + p, maker.get().steps(0, 1, p - 1, 0), NONE);
            Check.dueKept("no error modulo " + p, maker, x -> x.steps(0, 1, p - 1, 0));
        }
    }

    static void promise07_onlyRowIChanges() {
        PopovRows x = Given.after("p3; c3; r1,x,x2; r2,2,2; r0,1+x,2x4;");
        Check.due("degree", x.steps(1, 2, 2, 2), 6);
        Check.dueText("state", View.state(x), "3/3 (1,01,001) (2,2022,2000001) (,11,00002)");
    }

    // ---- 8: monic

    static void promise08_rowsOfEachCount() {
        for (int rows = 0; rows <= 5; rows++) {
            Check.dueKeptRange("row of " + rows, Given.busyRows(1, rows), 0, rows - 1, PopovRows::monic);
        }
    }

    static void promise08_eachLeadOfEachPrime() {
        for (int p : Given.PRIMES) {
            for (int lead = 1; lead < p; lead++) {
                String text = "p" + p + "; r" + lead + "+x2," + lead + "x6+1;";
                PopovRows x = Given.after(text);
                Check.due("lead", x.monic(0), lead);
                Check.due("lead then", x.about(0, 2), 1);
                Check.due("at the power 0", x.of(0, 0, 0), 1);
                Check.due("the inverse, modulo " + p, x.of(0, 0, 2) * lead % p, 1);
                Check.due("the inverse in the other column", x.of(0, 1, 0), x.of(0, 0, 2));
                Check.due("again", x.monic(0), 1);
                Check.dueKept("kept", Given.busy(text), y -> y.monic(0));
            }
        }
    }

    static void promise08_zeroIsNo() {
        Check.dueRefused("one column", Given.busy("c1; r1; r0;"), NO, x -> x.monic(1));
        Check.dueRefused("three columns", Given.busy("c3; r0,0,0; r1,1,1;"), NO, x -> x.monic(0));
        Check.dueRefused("zero modulo p", Given.busy("p5; r5,5x6+5;"), NO, x -> x.monic(0));
    }

    static void promise08_dividesByTheRightmostOfEqualDegree() {
        PopovRows x = Given.after("c3; r2x3,3x3,4x3+1; r2x3,3x3,4x2; r2x3,3x2,4x2;");
        Check.due("the third", x.monic(0), 4);
        Check.due("the second", x.monic(1), 3);
        Check.due("the first", x.monic(2), 2);
        Check.dueText("state", View.state(x), "7/3 (0004,0006,2001) (0003,0001,006) (0001,005,002)");
    }

    // ---- 9: of

    static void promise09_rowsOfEachCount() {
        for (int rows = 0; rows <= 5; rows++) {
            Check.dueRange("row of " + rows, Given.busyRows(1, rows), 0, rows - 1, (x, i) -> x.of(i, 0, 0));
        }
    }

    static void promise09_columnsOfEachNumber() {
        for (int c = 1; c <= 3; c++) {
            Check.dueRange("column of " + c, Given.busyRows(c, 1), 0, c - 1, (x, at) -> x.of(0, at, 0));
        }
    }

    static void promise09_powersZeroToSix() {
        Check.dueRange("power", TWO_ROWS, 0, 6, (x, k) -> x.of(1, 1, k));
        PopovRows x = Given.after("c3; r1,0,2x6; r3x6,0,4;");
        Check.due("the first of all", x.of(0, 0, 0), 1);
        Check.due("row 0, last", x.of(0, 2, 6), 2);
        Check.due("row 1, power 6", x.of(1, 0, 6), 3);
        Check.due("row 1, last column", x.of(1, 2, 0), 4);
        Check.dueAll("beside them", 0, x.of(0, 0, 1), x.of(0, 2, 5), x.of(1, 0, 5), x.of(1, 2, 1), x.of(0, 1, 0));
    }

    // ---- 10: about

    static void promise10_rowsOfEachCount() {
        for (int rows = 0; rows <= 5; rows++) {
            Check.dueRange("row of " + rows, Given.busyRows(1, rows), 0, rows - 1, (x, i) -> x.about(i, 0));
        }
    }

    static void promise10_whatZeroToTwo() {
        Check.dueRange("what", TWO_ROWS, 0, 2, (x, what) -> x.about(1, what));
        Check.dueRange("what of a zero row", Given.busy("r0,0;"), 0, 2, (x, what) -> x.about(0, what));
    }

    private static void dueAbout(String text, int degree, int pivot, int lead) {
        Supplier<PopovRows> maker = Given.busy(text);
        Check.dueAnswered("degree of " + text, maker, degree, x -> x.about(0, 0));
        Check.dueAnswered("pivot of " + text, maker, pivot, x -> x.about(0, 1));
        Check.dueAnswered("lead of " + text, maker, lead, x -> x.about(0, 2));
    }

    static void promise10_aZeroRowHasNoneNoneAndZero() {
        dueAbout("c1; r0;", NONE, NONE, 0);
        dueAbout("c2; r0,0;", NONE, NONE, 0);
        dueAbout("c3; r0,0,0;", NONE, NONE, 0);
        dueAbout("p2; c2; r2x6,x+x;", NONE, NONE, 0);
    }

    static void promise10_degreesZeroToSix() {
        dueAbout("c1; r3;", 0, 0, 3);
        for (int degree = 1; degree <= 6; degree++) {
            dueAbout("c2; r6x" + degree + ",1;", degree, 0, 6);
            dueAbout("c2; r1,6x" + degree + ";", degree, 1, 6);
        }
    }

    static void promise10_thePivotIsTheRightmostOfTheDegree() {
        dueAbout("c3; r2,3,4;", 0, 2, 4);
        dueAbout("c3; r2x,3x,4;", 1, 1, 3);
        dueAbout("c3; r2x,3,4;", 1, 0, 2);
        dueAbout("c3; r2x6,3x5,4x6;", 6, 2, 4);
        dueAbout("c3; r0,3,0;", 0, 1, 3);
        dueAbout("c2; r5x6,4x5;", 6, 0, 5);
        dueAbout("c2; r5x5,4x6+x5;", 6, 1, 4);
    }

    // ---- 11: next

    private static void dueNext(String text, int i, int j, int c, int k) {
        Supplier<PopovRows> maker = Given.busy(text);
        int[] want = {i, j, c, k};
        for (int what = 0; what <= 3; what++) {
            int asked = what;
            Check.dueAnswered("next(" + what + ") of " + text, maker, want[what], x -> x.next(asked));
        }
    }

    private static void dueNoNext(String text) {
        dueNext(text, NONE, NONE, NONE, NONE);
    }

    static void promise11_whatZeroToThree() {
        Check.dueRange("what", Given.busy("rx,0; rx2,0;"), 0, 3, PopovRows::next);
        Check.dueRange("what without a step", TWO_ROWS, 0, 3, PopovRows::next);
        Check.dueRange("what without rows", NO_ROWS, 0, 3, PopovRows::next);
    }

    static void promise11_noneForFewerThanTwoRows() {
        dueNoNext("c3;");
        dueNoNext("c1; rx;");
        dueNoNext("c2; r0,0;");
    }

    static void promise11_zeroRowsTakeNoStep() {
        dueNoNext("c1; r0; r0; r0; r0; r0;");
        dueNoNext("c1; rx; r0; r0;");
        dueNoNext("c1; r0; rx;");
        dueNext("c1; r0; r3x; r0; r0; r2x;", 1, 4, 2, 0);
    }

    static void promise11_noneForDifferentPivots() {
        dueNoNext("c3; r0,0,x; r0,x,0; rx,0,0;");
        dueNoNext("c2; rx,x; rx,1;");
        dueNoNext("c3; rx6,0,x6; r1,x6,0; rx,0,0; r0,0,0;");
    }

    static void promise11_equalDegreesTakeTheFirstPair() {
        dueNext("c1; r1; r1;", 0, 1, 6, 0);
        dueNext("c2; r0,2x6; r1,3x6;", 0, 1, 4, 0);
        dueNext("c3; rx,1,1; r1,x,1; r1,1,x; r1,x,1;", 1, 3, 6, 0);
    }

    static void promise11_theGreaterDegreeChanges() {
        dueNext("c1; rx; rx2;", 1, 0, 6, 1);
        dueNext("c1; rx2; rx;", 0, 1, 6, 1);
        dueNext("c1; r1; rx6;", 1, 0, 6, 6);
        dueNext("c1; rx6; r1;", 0, 1, 6, 6);
    }

    static void promise11_theFirstByIThenByJ() {
        dueNext("c1; rx; rx2; rx2;", 1, 0, 6, 1);
        dueNext("c1; rx5; rx6; rx4; rx;", 0, 2, 6, 1);
        dueNext("c2; rx,0; r0,x; r0,x2; rx2,0;", 2, 1, 6, 1);
        dueNext("c2; rx,0; r0,x3; r0,x2; rx2,0;", 1, 2, 6, 1);
        dueNext("c3; rx,0,0; r0,x,0; r0,0,x; r0,0,0; r2,0,3x;", 2, 4, 2, 0);
    }

    static void promise11_cCancelsEachLead() {
        for (int p : Given.PRIMES) {
            for (int lead = 1; lead < p; lead++) {
                for (int other = 1; other < p; other++) {
                    PopovRows x = Given.after("p" + p + "; c1; r" + lead + "x4; r" + other + "x;");
                    int c = x.next(2);
                    Check.due("c is 1 to p - 1", c >= 1 && c < p ? 1 : 0, 1);
                    Check.due("cancelled modulo " + p, (lead + c * other) % p, 0);
                    Check.due("k", x.next(3), 3);
                    Check.due("zero then", x.steps(x.next(0), x.next(1), c, x.next(3)), NONE);
                }
            }
        }
    }

    public static void main(String[] args) {
        Check.runAll(RowEdgesTest.class);
    }
}
