/** Each promise by itself: ordinary inputs, the edges that the document names, and wrong inputs. */
public final class PromisesTest {
    private static final int BAD = PopovRows.BAD;
    private static final int NO = PopovRows.NO;
    private static final int FULL = PopovRows.FULL;
    private static final int NONE = PopovRows.NONE;
    private static final int LEAST = Integer.MIN_VALUE;
    private static final int MOST = Integer.MAX_VALUE;

    private static int wrong = 0;
    private static int promise = 0;

    private static void due(String what, long got, long want) {
        if (got != want) {
            wrong++;
            System.out.println("promise " + promise + ": " + what + ": got " + got + ", due is " + want);
        }
    }

    /** Every one of the answers is the one that is due. */
    private static void dueAll(String what, long want, long... answers) {
        for (int i = 0; i < answers.length; i++) {
            due(what + " [" + i + "]", answers[i], want);
        }
    }

    private static void types(PopovRows x, String text) {
        x.clear();
        for (int i = 0; i < text.length(); i++) {
            x.type(text.charAt(i));
        }
    }

    private static int reads(PopovRows x, String text) {
        types(x, text);
        return x.reads();
    }

    /** A new object that has read the text. */
    private static PopovRows after(String text) {
        PopovRows x = new PopovRows();
        if (reads(x, text) < 0) {
            wrong++;
            System.out.println("the text was not read: " + text);
        }
        x.clear();
        return x;
    }

    /** The polynomial in column c of a row, as digits from the power 0 on, without zeros behind. */
    private static String entry(PopovRows x, int i, int c) {
        StringBuilder digits = new StringBuilder();
        for (int k = 0; k <= 6; k++) {
            digits.append(x.of(i, c, k));
        }
        return trimmed(digits);
    }

    private static String trimmed(StringBuilder digits) {
        int end = digits.length();
        while (end > 0 && digits.charAt(end - 1) == '0') {
            end--;
        }
        return digits.substring(0, end);
    }

    /** p, C and all rows, written out. */
    private static String state(PopovRows x) {
        StringBuilder text = new StringBuilder();
        text.append(x.told(4)).append('/').append(x.told(5));
        for (int i = 0; i < x.told(6); i++) {
            text.append(" (");
            for (int c = 0; c < x.told(5); c++) {
                text.append(c == 0 ? "" : ",").append(entry(x, i, c));
            }
            text.append(')');
        }
        return text.toString();
    }

    private static String form(PopovRows x, int set) {
        StringBuilder text = new StringBuilder();
        for (int i = 0; x.form(set, i, NONE, 0) != -5; i++) {
            text.append(i == 0 ? "" : " ").append(x.form(set, i, NONE, 0)).append('@');
            text.append(x.form(set, i, NONE, 1)).append('(');
            for (int c = 0; c < x.told(5); c++) {
                StringBuilder digits = new StringBuilder();
                for (int k = 0; k <= 6; k++) {
                    digits.append(x.form(set, i, c, k));
                }
                text.append(c == 0 ? "" : ",").append(trimmed(digits));
            }
            text.append(')');
        }
        return text.toString();
    }

    private static void dueText(String what, String got, String want) {
        if (!got.equals(want)) {
            wrong++;
            System.out.println("promise " + promise + ": " + what + ": got " + got + ", due is " + want);
        }
    }

    private static void newObject() {
        PopovRows x = new PopovRows();
        dueText("state", state(x), "7/2");
        due("length", x.told(3), 0);
        due("states", x.told(7), 0);
        due("errors", x.told(0) + x.told(1) + x.told(2), 0);
        due("why(0)", x.why(0), 0);
        due("why(1)", x.why(1), NONE);
        due("next", x.next(0), NONE);
        due("back", x.back(), NO);
    }

    private static void prime() {
        PopovRows x = after("c3; r1,x,x2; r1,1,1;");
        dueAll("wrong p", BAD, x.prime(0), x.prime(1), x.prime(4), x.prime(6), x.prime(8), x.prime(9),
                x.prime(11), x.prime(-2), x.prime(-7), x.prime(LEAST), x.prime(MOST));
        dueText("nothing changed", state(x), "7/3 (1,01,001) (1,1,1)");
        due("nothing kept", x.told(7), 1);
        due("7 to 5", x.prime(5), 7);
        dueText("rows removed", state(x), "5/3");
        due("kept", x.told(7), 2);
        due("5 to 3", x.prime(3), 5);
        due("3 to 2", x.prime(2), 3);
        x.row();
        due("2 to 2", x.prime(2), 2);
        dueText("rows removed too", state(x), "2/3");
        due("2 to 7", x.prime(7), 2);
        due("counted", x.told(0), 11);
    }

    private static void columns() {
        PopovRows x = after("p5; r1,x;");
        dueAll("wrong number", BAD, x.columns(0), x.columns(4), x.columns(-1), x.columns(LEAST), x.columns(MOST));
        dueText("nothing changed", state(x), "5/2 (1,01)");
        due("nothing kept", x.told(7), 1);
        due("2 to 3", x.columns(3), 2);
        dueText("rows removed", state(x), "5/3");
        due("kept", x.told(7), 2);
        x.row();
        due("3 to 3", x.columns(3), 3);
        dueText("rows removed too", state(x), "5/3");
        due("3 to 1", x.columns(1), 3);
        due("no column 1", x.sets(x.row(), 1, 0, 1), BAD);
        due("1 to 2", x.columns(2), 1);
        due("counted", x.told(0), 6);
    }

    private static void row() {
        PopovRows x = new PopovRows();
        for (int i = 0; i < 5; i++) {
            due("number", x.row(), i);
            due("kept", x.told(7), i + 1);
            x.sets(i, 1, 3, 4);
            x.back();
            due("set back", x.of(i, 1, 3), 0);
        }
        due("no room", x.row(), FULL);
        due("counted", x.told(2), 1);
        due("rows", x.told(6), 5);
        PopovRows y = after("rx6,x6; r1,1;");
        y.drops(1);
        y.drops(0);
        y.row();
        y.row();
        dueText("zero also in a place that was used", state(y), "7/2 (,) (,)");
        y.sets(0, 0, 0, 1);
        y.prime(7);
        y.row();
        dueText("zero also after prime", state(y), "7/2 (,)");
    }

    private static void sets() {
        PopovRows x = after("p5; c3; r0,0,0; r1,x,4x6;");
        due("of 0", x.sets(0, 2, 6, 3), 0);
        due("of 3", x.sets(0, 2, 6, 12), 3);
        due("of 2", x.sets(0, 2, 6, -1), 2);
        due("of -1", x.sets(0, 2, 6, MOST), 4);
        due("of the greatest", x.sets(0, 2, 6, LEAST), 2);
        due("of the least", x.sets(0, 2, 6, -5), 2);
        due("of -5", x.sets(0, 2, 6, 5), 0);
        due("the other row", x.sets(1, 2, 6, 1), 4);
        due("a first place", x.sets(1, 0, 0, 0), 1);
        dueText("state", state(x), "5/3 (,,) (,01,0000001)");
        dueAll("wrong places", BAD, x.sets(2, 0, 0, 1), x.sets(-1, 0, 0, 1), x.sets(0, 3, 0, 1), x.sets(0, -1, 0, 1),
                x.sets(0, 0, 7, 1), x.sets(0, 0, -1, 1), x.sets(MOST, 0, 0, 1), x.sets(0, LEAST, 0, 1),
                x.sets(0, 0, MOST, 1));
        dueText("nothing changed", state(x), "5/3 (,,) (,01,0000001)");
        due("counted", x.told(0), 9);
        due("states", x.told(7), 5);
        PopovRows y = after("r1,1;");
        y.sets(0, 0, 0, 1);
        due("kept though the same", y.told(7), 2);
        y.sets(5, 0, 0, 1);
        due("not kept when wrong", y.told(7), 2);
    }

    private static void drops() {
        PopovRows x = after("c1; r1; rx; rx2; rx3;");
        dueAll("no such row", BAD, x.drops(4), x.drops(-1), x.drops(LEAST), x.drops(MOST));
        due("a middle one", x.drops(1), 3);
        dueText("behind it", state(x), "7/1 (1) (001) (0001)");
        due("the last", x.drops(2), 2);
        dueText("before it", state(x), "7/1 (1) (001)");
        due("the first", x.drops(0), 1);
        dueText("left", state(x), "7/1 (001)");
        due("the only one", x.drops(0), 0);
        due("none left", x.drops(0), BAD);
        due("kept", x.told(7), 5);
        due("counted", x.told(0), 5);
        x.back();
        dueText("back", state(x), "7/1 (001)");
    }

    private static void steps() {
        PopovRows x = after("p5; r1+x,2; rx2+3,x;");
        due("degree", x.steps(0, 1, 2, 3), 5);
        dueText("added", state(x), "5/2 (110102,20002) (301,01)");
        due("zero times", x.steps(0, 1, 5, 6), 5);
        due("kept all the same", x.told(7), 3);
        due("six is one", x.steps(0, 1, 6, 0), 5);
        dueText("added once", state(x), "5/2 (411102,21002) (301,01)");
        due("too great", x.steps(1, 0, 1, 2), FULL);
        due("just not", x.steps(1, 0, 1, 1), 6);
        dueText("added to row 1", state(x), "5/2 (411102,21002) (3421102,031002)");
        due("not even where it was", x.steps(0, 1, 1, 1), FULL);
        due("taken away", x.steps(1, 0, 4, 1), 2);
        dueText("as before", state(x), "5/2 (411102,21002) (301,01)");
        dueAll("wrong", BAD, x.steps(0, 0, 1, 1), x.steps(2, 0, 1, 1), x.steps(0, 2, 1, 1), x.steps(-1, 0, 1, 1),
                x.steps(0, -1, 1, 1), x.steps(0, 1, 7, 1), x.steps(0, 1, -1, 1), x.steps(0, 1, 1, 7),
                x.steps(0, 1, 1, -1), x.steps(0, 1, LEAST, 0), x.steps(0, 1, 1, MOST), x.steps(2, 2, 1, 1));
        due("wrong before full", x.steps(0, 0, 1, 6), BAD);
        due("counted wrong", x.told(0), 13);
        due("counted full", x.told(2), 2);
        PopovRows y = after("r2x6,x6; r5x6,6x6; r0,0;");
        due("to zero", y.steps(0, 1, 1, 0), NONE);
        due("kept", y.told(7), 2);
        due("zero row, any power", y.steps(1, 2, 3, 6), 6);
        due("onto zero", y.steps(0, 1, 1, 0), 6);
        due("beyond", y.steps(0, 1, 1, 1), FULL);
        due("beyond, but no times", y.steps(0, 1, 0, 1), 6);
    }

    private static void monic() {
        PopovRows x = after("r3x+5,2x4+6x; r0,0; r1,4x2+2x3; r2x2,5x2;");
        due("lead", x.monic(0), 2);
        dueText("halved", state(x), "7/2 (65,03001) (,) (1,0042) (002,005)");
        due("lead of the last", x.monic(3), 5);
        due("lead of row 2", x.monic(2), 2);
        dueText("all", state(x), "7/2 (65,03001) (,) (4,0021) (006,001)");
        due("again", x.monic(3), 1);
        due("kept", x.told(7), 5);
        due("zero", x.monic(1), NO);
        dueAll("no such row", BAD, x.monic(4), x.monic(-1), x.monic(MOST), x.monic(LEAST));
        due("counted NO", x.told(1), 1);
        due("counted BAD", x.told(0), 4);
        int[] primes = {2, 3, 5, 7};
        for (int p : primes) {
            for (int lead = 1; lead < p; lead++) {
                PopovRows y = after("p" + p + "; c1; r" + lead + "x+1;");
                due("lead mod " + p, y.monic(0), lead);
                due("lead after mod " + p, y.of(0, 0, 1), 1);
                due("times lead is 1 mod " + p, y.of(0, 0, 0) * lead % p, 1);
            }
        }
        PopovRows z = after("r3,3;");
        z.monic(0);
        due("kept once", z.told(7), 2);
        z.monic(1);
        due("not kept when wrong", z.told(7), 2);
    }

    private static void of() {
        PopovRows x = after("c3; r1+2x+3x2+4x3+5x4+6x5+x6,5,x6; r0,0,6x2;");
        for (int k = 0; k <= 6; k++) {
            due("power " + k, x.of(0, 0, k), (k + 1) % 7 + (k == 6 ? 1 : 0));
        }
        due("column 1", x.of(0, 1, 0), 5);
        due("column 2", x.of(0, 2, 6), 1);
        due("row 1", x.of(1, 2, 2), 6);
        due("zero", x.of(1, 0, 2), 0);
        dueAll("wrong", BAD, x.of(2, 0, 0), x.of(-1, 0, 0), x.of(0, 3, 0), x.of(0, -1, 0), x.of(0, 0, 7),
                x.of(0, 0, -1), x.of(LEAST, 0, 0), x.of(0, MOST, 0), x.of(0, 0, LEAST));
        due("counted", x.told(0), 9);
        due("nothing kept", x.told(7), 1);
    }

    private static void about() {
        PopovRows x = after("c3; r2x4+1,3x4,x3; r0,0,5; r0,0,0; rx6,6x6,4x6;");
        int[][] want = {{4, 1, 3}, {0, 2, 5}, {NONE, NONE, 0}, {6, 2, 4}};
        for (int i = 0; i < want.length; i++) {
            for (int what = 0; what < 3; what++) {
                due("row " + i + ", " + what, x.about(i, what), want[i][what]);
            }
        }
        dueAll("wrong", BAD, x.about(4, 0), x.about(-1, 0), x.about(0, 3), x.about(0, -1), x.about(MOST, 0),
                x.about(0, LEAST));
        due("counted", x.told(0), 6);
    }

    private static void dueNext(String what, PopovRows x, int i, int j, int c, int k) {
        due(what + ": i", x.next(0), i);
        due(what + ": j", x.next(1), j);
        due(what + ": c", x.next(2), c);
        due(what + ": k", x.next(3), k);
    }

    private static void next() {
        dueNext("no rows", new PopovRows(), NONE, NONE, NONE, NONE);
        dueNext("other pivots", after("r1,0; r0,1;"), NONE, NONE, NONE, NONE);
        dueNext("zero rows", after("r0,0; r0,0; rx,0;"), NONE, NONE, NONE, NONE);
        dueNext("the first reduces", after("r3x4,x; r2x,0;"), 0, 1, 2, 3);
        dueNext("the second reduces", after("r2x,0; r3x4,x;"), 1, 0, 2, 3);
        dueNext("equal degrees", after("p5; r0,2x2; rx2,3x2;"), 0, 1, 1, 0);
        dueNext("by i, then j", after("c1; rx; rx3; r2x2; rx5;"), 1, 0, 6, 2);
        dueNext("later rows", after("c3; r0,0,0; r1,0,0; r0,x2,0; r0,0,3; rx,5x,0;"), 2, 4, 4, 1);
        dueNext("modulo 2", after("p2; c1; r1; rx6;"), 1, 0, 1, 6);
        PopovRows x = after("rx,0; rx,0;");
        dueAll("wrong", BAD, x.next(4), x.next(-1), x.next(MOST), x.next(LEAST));
        due("counted", x.told(0), 4);
        due("wrong without a step", new PopovRows().next(4), BAD);
        due("it lowers the pivot", x.steps(x.next(0), x.next(1), x.next(2), x.next(3)), NONE);
    }

    private static void rank() {
        PopovRows x = after("c3; rx,1,0; r0,x,x2; rx,1+x,x2; r0,0,0; r1,0,0;");
        due("empty", x.rank(0), 0);
        due("one", x.rank(1), 1);
        due("two", x.rank(3), 2);
        due("a sum", x.rank(7), 2);
        due("a zero row", x.rank(8), 0);
        due("with a zero row", x.rank(9), 1);
        due("all", x.rank(31), 3);
        due("the last", x.rank(16), 1);
        dueAll("wrong", BAD, x.rank(32), x.rank(-1), x.rank(64), x.rank(LEAST), x.rank(33), x.rank(MOST));
        due("counted", x.told(0), 6);
        x.drops(4);
        due("the row is gone", x.rank(16), BAD);
    }

    private static void formOfSet() {
        PopovRows x = after("rx2,1; rx,0; r0,0; r3x+3,3x; r2x2,x2+4;");
        dueText("empty", form(x, 0), "");
        dueText("zero", form(x, 4), "");
        dueText("equal degrees apart", form(x, 3), "0@1(,1) 1@0(01,)");
        dueText("monic", form(x, 8), "1@1(11,01)");
        dueText("by degree", form(after("r0,x3; rx,0;"), 3), "1@0(01,) 3@1(,0001)");
        dueText("by pivot", form(after("c3; r0,0,2x; rx,0,0; r0,3x,0;"), 7), "1@0(01,,) 1@1(,01,) 1@2(,,01)");
        dueText("small in other columns", form(after("c2; rx2,0; rx,x3;"), 3), "2@0(001,) 3@1(01,0001)");
        dueText("reduced in other columns", form(after("c2; rx,0; rx2+x+5,x3;"), 3), "1@0(01,) 3@1(5,0001)");
        dueText("gcd", form(after("c1; rx2+6; rx3+6; r5x4+2;"), 7), "1@0(61)");
        dueText("some of the rows", form(x, 18), "1@0(01,) 2@1(,401)");
        dueText("degree 6", form(after("c1; p3; r2x6+x+1;"), 1), "6@0(2200001)");
        dueAll("no such row", -5, x.form(3, 2, 0, 0), x.form(0, 0, NONE, 0), x.form(3, MOST, 0, 0), x.form(4, 0, 1, 6));
        due("not counted", x.told(0) + x.told(1) + x.told(2), 0);
        dueAll("wrong", BAD, x.form(32, 0, 0, 0), x.form(-1, 0, 0, 0), x.form(3, -1, 0, 0), x.form(3, LEAST, 0, 0),
                x.form(3, 0, 2, 0), x.form(3, 0, -2, 0), x.form(3, 0, LEAST, 0), x.form(3, 0, 0, 7),
                x.form(3, 0, 0, -1), x.form(3, 0, NONE, 2), x.form(3, 0, NONE, -1), x.form(3, 0, NONE, 6));
        dueAll("wrong before no such row", BAD, x.form(0, 0, 2, 0), x.form(0, 0, 0, 7), x.form(0, 0, NONE, 2));
        due("counted", x.told(0), 15);
        due("nothing kept", x.told(7), 1);
    }

    private static void least() {
        PopovRows x = after("c3; rx6,0,0; r0,x5,0; r0,0,2x4; rx,x2,1; r0,0,0;");
        due("empty", x.least(0), 0);
        due("zero", x.least(16), 0);
        due("one", x.least(1), 6);
        due("two", x.least(3), 11);
        due("three", x.least(7), 15);
        due("apart", x.least(8), 2);
        due("degree of the determinant", x.least(11), x.det(11, NONE));
        dueAll("wrong", BAD, x.least(32), x.least(-1), x.least(LEAST), x.least(MOST), x.least(48));
        due("counted", x.told(0), 5);
    }

    private static void same() {
        PopovRows x = after("rx,1; r0,x; rx,1+x2; r3x,3; r0,0;");
        due("itself", x.same(1, 1), 1);
        due("a multiple", x.same(1, 8), 1);
        due("a sum", x.same(3, 7), 1);
        due("another basis, less", x.same(5, 3), 0);
        due("another rank", x.same(1, 3), 0);
        due("the other way", x.same(3, 1), 0);
        due("same degrees", x.same(1, 2), 0);
        due("empty", x.same(0, 0), 1);
        due("empty and zero", x.same(0, 16), 1);
        due("empty and one", x.same(0, 1), 0);
        due("same rank and degrees", after("r1,x; r2,x;").same(1, 2), 0);
        dueAll("wrong", BAD, x.same(32, 0), x.same(0, 32), x.same(-1, 0), x.same(0, -1), x.same(LEAST, LEAST),
                x.same(0, MOST));
        due("counted", x.told(0), 6);
    }

    private static String remainder(PopovRows x, int i, int set) {
        StringBuilder text = new StringBuilder();
        for (int c = 0; c < x.told(5); c++) {
            StringBuilder digits = new StringBuilder();
            for (int k = 0; k <= 6; k++) {
                digits.append(x.rest(i, set, c, k));
            }
            text.append(c == 0 ? "" : ",").append(trimmed(digits));
        }
        return text.toString();
    }

    private static void rest() {
        PopovRows x = after("rx2,0; r1,2x; rx3+4x+2,3x2; r0,0; r0,x6+x;");
        dueText("by nothing", remainder(x, 2, 0), "2401,003");
        dueText("by zero", remainder(x, 2, 8), "2401,003");
        dueText("by one", remainder(x, 2, 1), "24,003");
        dueText("by the other", remainder(x, 2, 2), "2601,");
        dueText("by both", remainder(x, 2, 3), "26,");
        dueText("of zero", remainder(x, 3, 7), ",");
        dueText("of degree 6", remainder(x, 4, 3), "3,");
        dueText("one column", remainder(after("c1; p5; rx6+3; r2x2+1;"), 0, 2), "1");
        dueAll("wrong", BAD, x.rest(5, 0, 0, 0), x.rest(-1, 0, 0, 0), x.rest(0, 1, 0, 0), x.rest(0, 3, 0, 0),
                x.rest(0, 32, 0, 0), x.rest(0, -2, 0, 0), x.rest(0, LEAST, 0, 0), x.rest(0, 2, 2, 0),
                x.rest(0, 2, -1, 0), x.rest(0, 2, 0, 7), x.rest(0, 2, 0, -1), x.rest(MOST, 0, 0, 0));
        due("counted", x.told(0), 12);
        due("nothing changed", x.of(2, 0, 3), 1);
    }

    private static void made() {
        PopovRows x = after("rx2,0; r1,2x; rx3+x2+3,6x; r0,0; r3,6x+x2;");
        due("a combination", x.made(2, 3), 1);
        due("not of one", x.made(2, 1), 0);
        due("not of the other", x.made(2, 2), 0);
        due("zero of none", x.made(3, 0), 1);
        due("zero of some", x.made(3, 6), 1);
        due("none of none", x.made(0, 0), 0);
        due("none of zero", x.made(0, 8), 0);
        due("too small a module", x.made(4, 3), 0);
        due("with more rows than rank", x.made(2, 11), 1);
        dueAll("wrong", BAD, x.made(5, 0), x.made(-1, 0), x.made(0, 1), x.made(2, 7), x.made(0, 32), x.made(0, -2),
                x.made(0, LEAST), x.made(LEAST, 0), x.made(MOST, 0), x.made(32, 1));
        due("counted", x.told(0), 10);
    }

    private static String cofactor(PopovRows x, int i, int set, int j) {
        StringBuilder digits = new StringBuilder();
        for (int k = 0; k <= 24; k++) {
            digits.append(x.factor(i, set, j, k));
        }
        return trimmed(digits);
    }

    private static void factor() {
        PopovRows x = after("rx2,0; r1,2x; rx3+x2+3,6x; r0,0; rx,0;");
        dueText("of row 0", cofactor(x, 2, 3, 0), "11");
        dueText("of row 1", cofactor(x, 2, 3, 1), "3");
        dueText("of zero", cofactor(x, 3, 3, 1), "");
        dueText("one row", cofactor(x, 0, 16, 4), "01");
        due("the other way", x.factor(0, 6, 2, 0), NO);
        PopovRows z = after("c2; r1,x6; r0,1; r1,0;");
        dueText("of degree 0", cofactor(z, 2, 3, 0), "1");
        dueText("of degree 6", cofactor(z, 2, 3, 1), "0000006");
        PopovRows deep = after("c3; r1,x6,0; r0,1,x6; r0,0,1; r1,0,0;");
        dueText("of degree 12, first", cofactor(deep, 3, 7, 0), "1");
        dueText("of degree 12, second", cofactor(deep, 3, 7, 1), "0000006");
        dueText("of degree 12, third", cofactor(deep, 3, 7, 2), "0000000000001");
        PopovRows deepest = after("c3; r1,x6,0; r0,1,x6; r0,0,1; rx6,0,0;");
        dueText("of degree 18", cofactor(deepest, 3, 7, 2), "0000000000000000001");
        due("not generated", x.factor(4, 3, 0, 0), NO);
        due("rank too small", x.factor(2, 11, 0, 0), NO);
        due("rank too small, and not made", x.factor(4, 11, 0, 0), NO);
        due("rank too small for a zero row", x.factor(3, 17, 0, 0), NO);
        due("counted NO", x.told(1), 5);
        dueAll("wrong", BAD, x.factor(5, 3, 0, 0), x.factor(-1, 3, 0, 0), x.factor(0, 3, 1, 0), x.factor(2, 35, 0, 0),
                x.factor(2, -5, 0, 0), x.factor(2, 3, 2, 0), x.factor(2, 3, 3, 0), x.factor(2, 3, -1, 0),
                x.factor(2, 3, 5, 0), x.factor(2, 3, 32, 0), x.factor(2, 3, 0, 25), x.factor(2, 3, 0, -1),
                x.factor(2, 0, 0, 0), x.factor(2, 3, LEAST, 0), x.factor(2, 3, 0, MOST));
        dueAll("wrong before NO", BAD, x.factor(4, 3, 0, 25), x.factor(4, 3, 2, 0), x.factor(4, 16, 4, 0));
        due("counted BAD", x.told(0), 18);
    }

    private static String determinant(PopovRows x, int set) {
        StringBuilder digits = new StringBuilder();
        for (int k = 0; k <= 18; k++) {
            digits.append(x.det(set, k));
        }
        return x.det(set, NONE) + ":" + trimmed(digits);
    }

    private static void det() {
        PopovRows x = after("rx,2; r3,x2+1; r2x,4; r0,5x6; r0,0;");
        dueText("two rows", determinant(x, 3), "3:1101");
        dueText("rows apart", determinant(x, 10), "6:0000001");
        dueText("no rank", determinant(x, 5), "-1:");
        dueText("zero row", determinant(x, 17), "-1:");
        dueText("one column", determinant(after("c1; rx; r3x6+2;"), 2), "6:2000003");
        dueText("three columns", determinant(after("c3; rx6,0,0; r0,x6,0; r0,0,3x6;"), 7), "18:0000000000000000003");
        dueText("odd order", determinant(after("c3; r0,x,0; r1,0,0; r0,0,1;"), 7), "1:06");
        dueText("even order", determinant(after("c3; r0,x,0; r0,0,1; r1,0,0;"), 7), "1:01");
        dueText("all products", determinant(after("c3; r1,2,3; r4,5,6; r0,1,5;"), 7), "0:5");
        dueAll("not C rows", NO, x.det(1, 0), x.det(0, NONE), x.det(7, 18), x.det(31, 0));
        due("counted NO", x.told(1), 4);
        dueAll("wrong", BAD, x.det(33, 0), x.det(-1, 0), x.det(3, 19), x.det(3, -2), x.det(1, 19), x.det(32, 0),
                x.det(LEAST, 0), x.det(3, LEAST), x.det(3, MOST));
        due("counted BAD", x.told(0), 9);
    }

    private static String pade(PopovRows x, int i, int c, int n) {
        StringBuilder text = new StringBuilder();
        for (int what = 0; what <= 1; what++) {
            StringBuilder digits = new StringBuilder();
            for (int k = 0; k <= 7; k++) {
                digits.append(x.quotient(i, c, n, what, k));
            }
            text.append(what == 0 ? "" : "/").append(trimmed(digits));
        }
        return text.toString();
    }

    private static void quotient() {
        PopovRows x = after("r1+x+x2+x3+x4+x5+x6,0; r0,2x3; r0,1+x; r3,x6+1;");
        dueText("a geometric sum", pade(x, 0, 0, 7), "6/61");
        dueText("zero", pade(x, 0, 1, 7), "/1");
        dueText("modulo x", pade(x, 0, 0, 1), "1/1");
        dueText("powers of n or more", pade(x, 1, 1, 3), "/1");
        dueText("just one below n", pade(x, 1, 1, 4), "/01");
        dueText("in the middle", pade(x, 1, 1, 5), "/001");
        dueText("itself", pade(x, 2, 1, 3), "11/1");
        dueText("a constant", pade(x, 3, 0, 7), "3/1");
        dueText("degree 6", pade(x, 3, 1, 6), "1/1");
        dueText("in one column", pade(after("c1; p2; rx6;"), 0, 0, 7), "/01");
        dueText("in three columns", pade(after("c3; p3; r0,0,1+x2;"), 0, 2, 3), "01/01");
        dueAll("wrong", BAD, x.quotient(4, 0, 1, 0, 0), x.quotient(-1, 0, 1, 0, 0), x.quotient(0, 2, 1, 0, 0),
                x.quotient(0, -1, 1, 0, 0), x.quotient(0, 0, 0, 0, 0), x.quotient(0, 0, 8, 0, 0),
                x.quotient(0, 0, 1, 2, 0), x.quotient(0, 0, 1, -1, 0), x.quotient(0, 0, 1, 0, 8),
                x.quotient(0, 0, 1, 0, -1), x.quotient(0, 0, LEAST, 0, 0), x.quotient(0, 0, MOST, 0, 0));
        due("counted", x.told(0), 12);
        due("no room for 3 columns", x.told(5), 2);
    }

    private static void type() {
        PopovRows x = new PopovRows();
        dueAll("wrong", BAD, x.type(-1), x.type(128), x.type(256 + 'r'), x.type(LEAST), x.type(MOST));
        due("counted", x.told(0), 5);
        for (int i = 1; i <= 150; i++) {
            due("length", x.type(i % 2 == 0 ? 0 : 127), i);
        }
        due("no room", x.type(32), FULL);
        due("no room, and wrong", x.type(128), BAD);
        due("counted FULL", x.told(2), 1);
        due("length told", x.told(3), 150);
        due("a byte that cannot stand", x.reads(), -10);
        due("nothing kept", x.told(7), 0);
        PopovRows full = new PopovRows();
        StringBuilder text = new StringBuilder();
        for (int i = 0; i < 50; i++) {
            text.append("p7;");
        }
        due("all 150 bytes are read", reads(full, text.toString()), 50);
    }

    private static void clear() {
        PopovRows x = new PopovRows();
        due("empty", x.clear(), 0);
        due("first", reads(x, "r1,x;"), 1);
        due("length", x.clear(), 5);
        due("cleared", x.clear(), 0);
        due("told", x.told(3), 0);
        due("nothing stands", x.reads(), -10);
        due("length after", x.type('c'), 1);
        x.type('3');
        x.type(';');
        due("only the new text", x.reads(), 1);
        dueText("state", state(x), "7/3");
        due("back does not touch the text", x.back() + x.told(3), 1 + 3);
    }

    private static void dueFault(String text, int fault) {
        PopovRows x = after("r1,x;");
        String old = state(x);
        due("fault of '" + text + "'", reads(x, text), -10 - fault);
        dueText("nothing done by '" + text + "'", state(x), old);
        due("nothing kept by '" + text + "'", x.told(7), 1);
        due("nothing counted by '" + text + "'", x.told(0) + x.told(1) + x.told(2), 0);
        due("why(0) after '" + text + "'", x.why(0), 0);
        due("the text stays", x.told(3), text.length());
    }

    private static void dueRead(String text, int commands, String want) {
        PopovRows x = after("r1,x;");
        due("commands of '" + text + "'", reads(x, text), commands);
        dueText("state after '" + text + "'", state(x), want);
        due("one state for '" + text + "'", x.told(7), 2);
        due("the text stays", x.told(3), text.length());
        due("back", x.back(), 1);
        dueText("state before '" + text + "'", state(x), "7/2 (1,01)");
    }

    private static void dueStop(String text, int index, int error) {
        PopovRows x = after("r1,x;");
        due("stop of '" + text + "'", reads(x, text), -1000 - index);
        due("error of '" + text + "'", x.why(0), error);
        due("index of '" + text + "'", x.why(1), index);
        dueText("nothing done by '" + text + "'", state(x), "7/2 (1,01)");
        due("nothing kept by '" + text + "'", x.told(7), 1);
        due("nothing counted by '" + text + "'", x.told(0) + x.told(1) + x.told(2), 0);
    }

    private static void readsCommands() {
        dueRead("p5;", 1, "5/2");
        dueRead("p7;", 1, "7/2");
        dueRead("c3;", 1, "7/3");
        dueRead("r0,0;", 1, "7/2 (1,01) (,)");
        dueRead("x0;", 1, "7/2");
        dueRead("m0;", 1, "7/2 (1,01)");
        dueRead("r3x,5;m1;", 2, "7/2 (1,01) (01,4)");
        dueRead("rx,1;s0132;", 2, "7/2 (1003,013) (01,1)");
        dueRead("rx,1;s1060;", 2, "7/2 (1,01) (61,16)");
        dueRead("r8,9x6;", 1, "7/2 (1,01) (1,0000002)");
        dueRead("r7+7x,x+x+x;", 1, "7/2 (1,01) (,03)");
        dueRead("rx+2x+4x,9x2+1+x2+6;", 1, "7/2 (1,01) (,003)");
        dueRead("p2;rx1+x2,3x3+2;", 2, "2/2 (011,0001)");
        dueRead("c1;r1;r2x;p3;r5;c2;r1,2;", 7, "3/2 (1,2)");
        dueRead("c3;rx4,x5,x6;", 2, "7/3 (00001,000001,0000001)");
        dueRead("x0;r1,2;r3,4;x0;", 4, "7/2 (3,4)");
        dueRead("  r 1 + 2 x3  + x , 5 x ;  x 0 ; ", 2, "7/2 (1102,05)");
        dueRead(" r1,1; s 1 0 2 1 ; ", 2, "7/2 (1,01) (12,102)");
        dueRead("p 3 ; c 1 ;", 2, "3/1");
        dueRead("r1,1;s0100;", 2, "7/2 (1,01) (1,1)");
    }

    private static void readsFaults() {
        String[] empty = {"", " ", "     "};
        for (String text : empty) {
            dueFault(text, text.length());
        }
        String[] early = {"p", "p5", "p5 ", "c", "c1", "r", "r1", "r1+", "r1,", "r1,2", "rx", "rx ", "rx2", "r1,x ",
            "x", "x0", "s", "s0", "s01", "s010", "s0100", "m", "m0", "p5;c", "p5; r", "r1,1;x0", "r2 "};
        for (String text : early) {
            dueFault(text, text.length());
        }
        String[] lastIsWrong = {"q", ";", "P", "5", "p1", "p4", "p0", "p6", "p8", "p9", "px", "p;", "p55", "p5,", "c0", "c4", "c9",
            "c;", "c11", "r;", "r,", "r+", "r-", "r1;", "r1 2", "r12", "rxx", "rx0", "rx7", "rx9", "rx 2", "rx22",
            "r2x x", "rx2x", "rx*", "r1,2,", "r1,,", "r1,;", "r1,2+;", "r1,+", "r1++", "x;", "xx", "x01", "x0,",
            "s;", "s01;", "s010;", "s01000", "s01x", "m;", "mx", "m00", "p5;q", "p5;;", "p5;5", "c1;rx,", "c3;rx,1;",
            "c2;rx;", "c1;c3;rx,x;", "\t", "p\t", "r1,\u0000", "r1,1;\u007f", "r3 x 1", "rx 1", "rx 6"};
        for (String text : lastIsWrong) {
            dueFault(text, text.length() - 1);
            dueFault(text + "p5;", text.length() - 1);
        }
        dueFault("x9;q", 3);
        dueFault("m5;s0999;p4;", 10);
        dueFault("p5;r1,1;m0;x", 12);
    }

    private static void readsStops() {
        dueStop("x1;", 0, 2);
        dueStop("x9;", 0, 2);
        dueStop("x0;m0;", 1, 2);
        dueStop("m1;", 0, 2);
        dueStop("r0,0;m1;", 1, 3);
        dueStop("s0100;", 0, 2);
        dueStop("s0000;", 0, 2);
        dueStop("r1,1;s0170;", 1, 2);
        dueStop("r1,1;s0107;", 1, 2);
        dueStop("rx4,0;s0113;", 1, 4);
        dueStop("r1,1;r1,1;r1,1;r1,1;r1,1;", 4, 4);
        dueStop("p5;x0;", 1, 2);
        dueStop("c3;r1,2,3;r0,0,0;m0;m1;x7;", 4, 3);
        dueStop("m0;x0;x0;m0;r0,0;m0;", 2, 2);
        PopovRows x = after("r1,1;");
        for (int i = 0; i < 4; i++) {
            x.sets(0, 0, 0, i);
        }
        due("five states", x.told(7), 5);
        due("a stop", reads(x, "x1;"), -1000);
        due("a fault", reads(x, "x"), -11);
        for (int i = 4; i >= 0; i--) {
            due("all of them are there still", x.back(), i);
        }
        dueText("the first state", state(x), "7/2");
    }

    private static void why() {
        PopovRows x = new PopovRows();
        dueAll("wrong", BAD, x.why(2), x.why(-1), x.why(MOST), x.why(LEAST));
        due("counted", x.told(0), 4);
        reads(x, "r0,0;m0;");
        due("NO", x.why(0), 3);
        due("at", x.why(1), 1);
        reads(x, "r0,0;r0,0;");
        due("after a success", x.why(0), 3);
        due("at, after a success", x.why(1), 1);
        reads(x, "q");
        due("after a fault", x.why(0), 3);
        x.drops(7);
        x.back();
        x.clear();
        due("after other calls", x.why(0), 3);
        due("at, after other calls", x.why(1), 1);
        reads(x, "x0;");
        due("BAD", x.why(0), 2);
        due("at the first", x.why(1), 0);
        reads(x, "r1,1;r1,1;r1,1;r1,1;r1,1;r1,1;");
        due("FULL", x.why(0), 4);
        due("at the sixth", x.why(1), 5);
    }

    private static void back() {
        PopovRows x = new PopovRows();
        due("none", x.back(), NO);
        x.prime(5);
        x.columns(3);
        x.row();
        x.sets(0, 2, 1, 4);
        due("kept", x.told(7), 4);
        due("sets", x.back(), 3);
        dueText("before sets", state(x), "5/3 (,,)");
        due("row", x.back(), 2);
        dueText("before row", state(x), "5/3");
        due("columns", x.back(), 1);
        dueText("before columns", state(x), "5/2");
        due("prime", x.back(), 0);
        dueText("before prime", state(x), "7/2");
        due("no more", x.back(), NO);
        due("counted", x.told(1), 2);
        PopovRows y = after("c1; r1; rx; r2x2;");
        y.steps(0, 1, 1, 1);
        y.monic(2);
        y.drops(1);
        y.sets(0, 0, 0, 5);
        y.prime(2);
        due("five at most", y.told(7), 5);
        for (int i = 4; i >= 0; i--) {
            due("left", y.back(), i);
        }
        dueText("the oldest", state(y), "7/1 (1) (01) (002)");
        due("the sixth is forgotten", y.back(), NO);
        PopovRows z = after("c1; r1;");
        for (int i = 0; i < 20; i++) {
            z.sets(0, 0, 1 + i / 7, i);
            z.sets(0, 0, 6, i);
            z.back();
        }
        due("kept after going to and fro", z.told(7), 4);
        due("the last one", z.back(), 3);
        dueText("state", state(z), "7/1 (1664)");
        z.row();
        due("kept again", z.told(7), 4);
        z.back();
        dueText("state again", state(z), "7/1 (1664)");
        PopovRows errors = new PopovRows();
        errors.row();
        errors.drops(5);
        errors.back();
        due("errors stay counted", errors.told(0), 1);
    }

    private static void told() {
        PopovRows x = after("p3; c3; r1,1,1; r0,0,0;");
        dueAll("wrong", BAD, x.told(8), x.told(-1), x.told(MOST), x.told(LEAST));
        x.monic(1);
        x.monic(1);
        x.row();
        x.row();
        x.row();
        x.row();
        types(x, "abc");
        int[] want = {4, 2, 1, 3, 3, 3, 5, 4};
        for (int what = 0; what < want.length; what++) {
            due("told " + what, x.told(what), want[what]);
        }
    }

    private static long mixed(long h, long... values) {
        for (long v : values) {
            h = 31 * h + v;
        }
        return h;
    }

    private static long digestByHand(PopovRows x) {
        long h = 2441;
        for (int what = 0; what <= 7; what++) {
            h = mixed(h, x.told(what));
        }
        h = mixed(h, x.why(0), x.why(1));
        for (int i = 0; i < x.told(6); i++) {
            h = mixed(h, x.about(i, 0), x.about(i, 1), x.about(i, 2));
            for (int c = 0; c < x.told(5); c++) {
                for (int k = 0; k <= 6; k++) {
                    h = mixed(h, x.of(i, c, k));
                }
            }
        }
        int all = (1 << x.told(6)) - 1;
        return mixed(h, x.rank(all), x.least(all), x.next(0), x.next(1));
    }

    private static void digest() {
        due("a new object", new PopovRows().digest(), mixed(2441, 0, 0, 0, 0, 7, 2, 0, 0, 0, -1, 0, 0, -1, -1));
        PopovRows x = after("c1; r3x2; r2x;");
        due("two rows", x.digest(), mixed(2441, 0, 0, 0, 0, 7, 1, 2, 1, 0, -1,
                2, 0, 3, 0, 0, 3, 0, 0, 0, 0, 1, 0, 2, 0, 2, 0, 0, 0, 0, 0, 1, 1, 0, 1));
        due("the same again", x.digest(), digestByHand(x));
        PopovRows y = after("p5; c3; rx6,2,x; r1,1,4x5; r0,0,0; r3x2,4x2,x2;");
        y.drops(9);
        y.monic(2);
        y.row();
        y.row();
        reads(y, "r1,1,1;");
        due("after errors", y.digest(), digestByHand(y));
        due("nothing changed by it", y.digest(), digestByHand(y));
    }

    private static void constants() {
        due("NONE", PopovRows.NONE, -1);
        due("BAD", PopovRows.BAD, -2);
        due("NO", PopovRows.NO, -3);
        due("FULL", PopovRows.FULL, -4);
    }

    private static void run(int number) {
        promise = number;
        switch (number) {
            case 0: constants(); break;
            case 1: newObject(); break;
            case 2: prime(); break;
            case 3: columns(); break;
            case 4: row(); break;
            case 5: sets(); break;
            case 6: drops(); break;
            case 7: steps(); break;
            case 8: monic(); break;
            case 9: of(); break;
            case 10: about(); break;
            case 11: next(); break;
            case 12: rank(); break;
            case 13: formOfSet(); break;
            case 14: least(); break;
            case 15: same(); break;
            case 16: rest(); break;
            case 17: made(); break;
            case 18: factor(); break;
            case 19: det(); break;
            case 20: quotient(); break;
            case 21: type(); break;
            case 22: clear(); break;
            case 23: readsCommands(); readsFaults(); readsStops(); break;
            case 24: why(); break;
            case 25: back(); break;
            case 26: told(); break;
            default: digest(); break;
        }
    }

    public static void main(String[] args) {
        for (int number = 0; number <= 27; number++) {
            run(number);
        }
        System.out.println(wrong == 0 ? "PromisesTest: all as due" : "PromisesTest: " + wrong + " wrong");
        if (wrong != 0) {
            System.exit(1);
        }
    }
}
