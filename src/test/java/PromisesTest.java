/** Each promise by itself: ordinary inputs, the edges that the document names, and wrong inputs. */
public final class PromisesTest {
    private static final int BAD = Check.BAD;
    private static final int NO = Check.NO;
    private static final int FULL = Check.FULL;
    private static final int NONE = Check.NONE;
    private static final int LEAST = Check.LEAST;
    private static final int MOST = Check.MOST;

    static void promise01_newObject() {
        PopovRows x = new PopovRows();
        Check.dueText("state", View.state(x), "7/2");
        Check.due("length", x.told(3), 0);
        Check.due("states", x.told(7), 0);
        Check.due("errors", x.told(0) + x.told(1) + x.told(2), 0);
        Check.due("why(0)", x.why(0), 0);
        Check.due("why(1)", x.why(1), NONE);
        Check.due("next", x.next(0), NONE);
        Check.due("back", x.back(), NO);
    }

    static void promise02_prime() {
        PopovRows x = Given.after("c3; r1,x,x2; r1,1,1;");
        Check.dueAll("wrong p", BAD, x.prime(0), x.prime(1), x.prime(4), x.prime(6), x.prime(8), x.prime(9),
                x.prime(11), x.prime(-2), x.prime(-7), x.prime(LEAST), x.prime(MOST));
        Check.dueText("nothing changed", View.state(x), "7/3 (1,01,001) (1,1,1)");
        Check.due("nothing kept", x.told(7), 1);
        Check.due("7 to 5", x.prime(5), 7);
        Check.dueText("rows removed", View.state(x), "5/3");
        Check.due("kept", x.told(7), 2);
        Check.due("5 to 3", x.prime(3), 5);
        Check.due("3 to 2", x.prime(2), 3);
        x.row();
        Check.due("2 to 2", x.prime(2), 2);
        Check.dueText("rows removed too", View.state(x), "2/3");
        Check.due("2 to 7", x.prime(7), 2);
        Check.due("counted", x.told(0), 11);
    }

    static void promise03_columns() {
        PopovRows x = Given.after("p5; r1,x;");
        Check.dueAll("wrong number", BAD, x.columns(0), x.columns(4), x.columns(-1), x.columns(LEAST), x.columns(MOST));
        Check.dueText("nothing changed", View.state(x), "5/2 (1,01)");
        Check.due("nothing kept", x.told(7), 1);
        Check.due("2 to 3", x.columns(3), 2);
        Check.dueText("rows removed", View.state(x), "5/3");
        Check.due("kept", x.told(7), 2);
        x.row();
        Check.due("3 to 3", x.columns(3), 3);
        Check.dueText("rows removed too", View.state(x), "5/3");
        Check.due("3 to 1", x.columns(1), 3);
        Check.due("no column 1", x.sets(x.row(), 1, 0, 1), BAD);
        Check.due("1 to 2", x.columns(2), 1);
        Check.due("counted", x.told(0), 6);
    }

    static void promise04_row() {
        PopovRows x = new PopovRows();
        for (int i = 0; i < 5; i++) {
            Check.due("number", x.row(), i);
            Check.due("kept", x.told(7), i + 1);
            x.sets(i, 1, 3, 4);
            x.back();
            Check.due("set back", x.of(i, 1, 3), 0);
        }
        Check.due("no room", x.row(), FULL);
        Check.due("counted", x.told(2), 1);
        Check.due("rows", x.told(6), 5);
        PopovRows y = Given.after("rx6,x6; r1,1;");
        y.drops(1);
        y.drops(0);
        y.row();
        y.row();
        Check.dueText("zero also in a place that was used", View.state(y), "7/2 (,) (,)");
        y.sets(0, 0, 0, 1);
        y.prime(7);
        y.row();
        Check.dueText("zero also after prime", View.state(y), "7/2 (,)");
    }

    static void promise05_sets() {
        PopovRows x = Given.after("p5; c3; r0,0,0; r1,x,4x6;");
        Check.due("of 0", x.sets(0, 2, 6, 3), 0);
        Check.due("of 3", x.sets(0, 2, 6, 12), 3);
        Check.due("of 2", x.sets(0, 2, 6, -1), 2);
        Check.due("of -1", x.sets(0, 2, 6, MOST), 4);
        Check.due("of the greatest", x.sets(0, 2, 6, LEAST), 2);
        Check.due("of the least", x.sets(0, 2, 6, -5), 2);
        Check.due("of -5", x.sets(0, 2, 6, 5), 0);
        Check.due("the other row", x.sets(1, 2, 6, 1), 4);
        Check.due("a first place", x.sets(1, 0, 0, 0), 1);
        Check.dueText("state", View.state(x), "5/3 (,,) (,01,0000001)");
        Check.dueAll("wrong places", BAD, x.sets(2, 0, 0, 1), x.sets(-1, 0, 0, 1), x.sets(0, 3, 0, 1), x.sets(0, -1, 0, 1),
                x.sets(0, 0, 7, 1), x.sets(0, 0, -1, 1), x.sets(MOST, 0, 0, 1), x.sets(0, LEAST, 0, 1),
                x.sets(0, 0, MOST, 1));
        Check.dueText("nothing changed", View.state(x), "5/3 (,,) (,01,0000001)");
        Check.due("counted", x.told(0), 9);
        Check.due("states", x.told(7), 5);
        PopovRows y = Given.after("r1,1;");
        y.sets(0, 0, 0, 1);
        Check.due("kept though the same", y.told(7), 2);
        y.sets(5, 0, 0, 1);
        Check.due("not kept when wrong", y.told(7), 2);
    }

    static void promise06_drops() {
        PopovRows x = Given.after("c1; r1; rx; rx2; rx3;");
        Check.dueAll("no such row", BAD, x.drops(4), x.drops(-1), x.drops(LEAST), x.drops(MOST));
        Check.due("a middle one", x.drops(1), 3);
        Check.dueText("behind it", View.state(x), "7/1 (1) (001) (0001)");
        Check.due("the last", x.drops(2), 2);
        Check.dueText("before it", View.state(x), "7/1 (1) (001)");
        Check.due("the first", x.drops(0), 1);
        Check.dueText("left", View.state(x), "7/1 (001)");
        Check.due("the only one", x.drops(0), 0);
        Check.due("none left", x.drops(0), BAD);
        Check.due("kept", x.told(7), 5);
        Check.due("counted", x.told(0), 5);
        x.back();
        Check.dueText("back", View.state(x), "7/1 (001)");
    }

    static void promise07_steps() {
        PopovRows x = Given.after("p5; r1+x,2; rx2+3,x;");
        Check.due("degree", x.steps(0, 1, 2, 3), 5);
        Check.dueText("added", View.state(x), "5/2 (110102,20002) (301,01)");
        Check.due("zero times", x.steps(0, 1, 5, 6), 5);
        Check.due("kept all the same", x.told(7), 3);
        Check.due("six is one", x.steps(0, 1, 6, 0), 5);
        Check.dueText("added once", View.state(x), "5/2 (411102,21002) (301,01)");
        Check.due("too great", x.steps(1, 0, 1, 2), FULL);
        Check.due("just not", x.steps(1, 0, 1, 1), 6);
        Check.dueText("added to row 1", View.state(x), "5/2 (411102,21002) (3421102,031002)");
        Check.due("not even where it was", x.steps(0, 1, 1, 1), FULL);
        Check.due("taken away", x.steps(1, 0, 4, 1), 2);
        Check.dueText("as before", View.state(x), "5/2 (411102,21002) (301,01)");
        Check.dueAll("wrong", BAD, x.steps(0, 0, 1, 1), x.steps(2, 0, 1, 1), x.steps(0, 2, 1, 1), x.steps(-1, 0, 1, 1),
                x.steps(0, -1, 1, 1), x.steps(0, 1, 7, 1), x.steps(0, 1, -1, 1), x.steps(0, 1, 1, 7),
                x.steps(0, 1, 1, -1), x.steps(0, 1, LEAST, 0), x.steps(0, 1, 1, MOST), x.steps(2, 2, 1, 1));
        Check.due("wrong before full", x.steps(0, 0, 1, 6), BAD);
        Check.due("counted wrong", x.told(0), 13);
        Check.due("counted full", x.told(2), 2);
        PopovRows y = Given.after("r2x6,x6; r5x6,6x6; r0,0;");
        Check.due("to zero", y.steps(0, 1, 1, 0), NONE);
        Check.due("kept", y.told(7), 2);
        Check.due("zero row, any power", y.steps(1, 2, 3, 6), 6);
        Check.due("onto zero", y.steps(0, 1, 1, 0), 6);
        Check.due("beyond", y.steps(0, 1, 1, 1), FULL);
        Check.due("beyond, but no times", y.steps(0, 1, 0, 1), 6);
    }

    static void promise08_monic() {
        PopovRows x = Given.after("r3x+5,2x4+6x; r0,0; r1,4x2+2x3; r2x2,5x2;");
        Check.due("lead", x.monic(0), 2);
        Check.dueText("halved", View.state(x), "7/2 (65,03001) (,) (1,0042) (002,005)");
        Check.due("lead of the last", x.monic(3), 5);
        Check.due("lead of row 2", x.monic(2), 2);
        Check.dueText("all", View.state(x), "7/2 (65,03001) (,) (4,0021) (006,001)");
        Check.due("again", x.monic(3), 1);
        Check.due("kept", x.told(7), 5);
        Check.due("zero", x.monic(1), NO);
        Check.dueAll("no such row", BAD, x.monic(4), x.monic(-1), x.monic(MOST), x.monic(LEAST));
        Check.due("counted NO", x.told(1), 1);
        Check.due("counted BAD", x.told(0), 4);
        int[] primes = {2, 3, 5, 7};
        for (int p : primes) {
            for (int lead = 1; lead < p; lead++) {
                PopovRows y = Given.after("p" + p + "; c1; r" + lead + "x+1;");
                Check.due("lead mod " + p, y.monic(0), lead);
                Check.due("lead after mod " + p, y.of(0, 0, 1), 1);
                Check.due("times lead is 1 mod " + p, y.of(0, 0, 0) * lead % p, 1);
            }
        }
        PopovRows z = Given.after("r3,3;");
        z.monic(0);
        Check.due("kept once", z.told(7), 2);
        z.monic(1);
        Check.due("not kept when wrong", z.told(7), 2);
    }

    static void promise09_of() {
        PopovRows x = Given.after("c3; r1+2x+3x2+4x3+5x4+6x5+x6,5,x6; r0,0,6x2;");
        for (int k = 0; k <= 6; k++) {
            Check.due("power " + k, x.of(0, 0, k), (k + 1) % 7 + (k == 6 ? 1 : 0));
        }
        Check.due("column 1", x.of(0, 1, 0), 5);
        Check.due("column 2", x.of(0, 2, 6), 1);
        Check.due("row 1", x.of(1, 2, 2), 6);
        Check.due("zero", x.of(1, 0, 2), 0);
        Check.dueAll("wrong", BAD, x.of(2, 0, 0), x.of(-1, 0, 0), x.of(0, 3, 0), x.of(0, -1, 0), x.of(0, 0, 7),
                x.of(0, 0, -1), x.of(LEAST, 0, 0), x.of(0, MOST, 0), x.of(0, 0, LEAST));
        Check.due("counted", x.told(0), 9);
        Check.due("nothing kept", x.told(7), 1);
    }

    static void promise10_about() {
        PopovRows x = Given.after("c3; r2x4+1,3x4,x3; r0,0,5; r0,0,0; rx6,6x6,4x6;");
        int[][] want = {{4, 1, 3}, {0, 2, 5}, {NONE, NONE, 0}, {6, 2, 4}};
        for (int i = 0; i < want.length; i++) {
            for (int what = 0; what < 3; what++) {
                Check.due("row " + i + ", " + what, x.about(i, what), want[i][what]);
            }
        }
        Check.dueAll("wrong", BAD, x.about(4, 0), x.about(-1, 0), x.about(0, 3), x.about(0, -1), x.about(MOST, 0),
                x.about(0, LEAST));
        Check.due("counted", x.told(0), 6);
    }

    private static void dueNext(String what, PopovRows x, int i, int j, int c, int k) {
        Check.due(what + ": i", x.next(0), i);
        Check.due(what + ": j", x.next(1), j);
        Check.due(what + ": c", x.next(2), c);
        Check.due(what + ": k", x.next(3), k);
    }

    static void promise11_next() {
        dueNext("no rows", new PopovRows(), NONE, NONE, NONE, NONE);
        dueNext("other pivots", Given.after("r1,0; r0,1;"), NONE, NONE, NONE, NONE);
        dueNext("zero rows", Given.after("r0,0; r0,0; rx,0;"), NONE, NONE, NONE, NONE);
        dueNext("the first reduces", Given.after("r3x4,x; r2x,0;"), 0, 1, 2, 3);
        dueNext("the second reduces", Given.after("r2x,0; r3x4,x;"), 1, 0, 2, 3);
        dueNext("equal degrees", Given.after("p5; r0,2x2; rx2,3x2;"), 0, 1, 1, 0);
        dueNext("by i, then j", Given.after("c1; rx; rx3; r2x2; rx5;"), 1, 0, 6, 2);
        dueNext("later rows", Given.after("c3; r0,0,0; r1,0,0; r0,x2,0; r0,0,3; rx,5x,0;"), 2, 4, 4, 1);
        dueNext("modulo 2", Given.after("p2; c1; r1; rx6;"), 1, 0, 1, 6);
        PopovRows x = Given.after("rx,0; rx,0;");
        Check.dueAll("wrong", BAD, x.next(4), x.next(-1), x.next(MOST), x.next(LEAST));
        Check.due("counted", x.told(0), 4);
        Check.due("wrong without a step", new PopovRows().next(4), BAD);
        Check.due("it lowers the pivot", x.steps(x.next(0), x.next(1), x.next(2), x.next(3)), NONE);
    }

    static void promise12_rank() {
        PopovRows x = Given.after("c3; rx,1,0; r0,x,x2; rx,1+x,x2; r0,0,0; r1,0,0;");
        Check.due("empty", x.rank(0), 0);
        Check.due("one", x.rank(1), 1);
        Check.due("two", x.rank(3), 2);
        Check.due("a sum", x.rank(7), 2);
        Check.due("a zero row", x.rank(8), 0);
        Check.due("with a zero row", x.rank(9), 1);
        Check.due("all", x.rank(31), 3);
        Check.due("the last", x.rank(16), 1);
        Check.dueAll("wrong", BAD, x.rank(32), x.rank(-1), x.rank(64), x.rank(LEAST), x.rank(33), x.rank(MOST));
        Check.due("counted", x.told(0), 6);
        x.drops(4);
        Check.due("the row is gone", x.rank(16), BAD);
    }

    static void promise13_form() {
        PopovRows x = Given.after("rx2,1; rx,0; r0,0; r3x+3,3x; r2x2,x2+4;");
        Check.dueText("empty", View.form(x, 0), "");
        Check.dueText("zero", View.form(x, 4), "");
        Check.dueText("equal degrees apart", View.form(x, 3), "0@1(,1) 1@0(01,)");
        Check.dueText("monic", View.form(x, 8), "1@1(11,01)");
        Check.dueText("by degree", View.form(Given.after("r0,x3; rx,0;"), 3), "1@0(01,) 3@1(,0001)");
        Check.dueText("by pivot", View.form(Given.after("c3; r0,0,2x; rx,0,0; r0,3x,0;"), 7), "1@0(01,,) 1@1(,01,) 1@2(,,01)");
        Check.dueText("small in other columns", View.form(Given.after("c2; rx2,0; rx,x3;"), 3), "2@0(001,) 3@1(01,0001)");
        Check.dueText("reduced in other columns", View.form(Given.after("c2; rx,0; rx2+x+5,x3;"), 3), "1@0(01,) 3@1(5,0001)");
        Check.dueText("gcd", View.form(Given.after("c1; rx2+6; rx3+6; r5x4+2;"), 7), "1@0(61)");
        Check.dueText("some of the rows", View.form(x, 18), "1@0(01,) 2@1(,401)");
        Check.dueText("degree 6", View.form(Given.after("c1; p3; r2x6+x+1;"), 1), "6@0(2200001)");
        Check.dueAll("no such row", -5, x.form(3, 2, 0, 0), x.form(0, 0, NONE, 0), x.form(3, MOST, 0, 0), x.form(4, 0, 1, 6));
        Check.due("not counted", x.told(0) + x.told(1) + x.told(2), 0);
        Check.dueAll("wrong", BAD, x.form(32, 0, 0, 0), x.form(-1, 0, 0, 0), x.form(3, -1, 0, 0), x.form(3, LEAST, 0, 0),
                x.form(3, 0, 2, 0), x.form(3, 0, -2, 0), x.form(3, 0, LEAST, 0), x.form(3, 0, 0, 7),
                x.form(3, 0, 0, -1), x.form(3, 0, NONE, 2), x.form(3, 0, NONE, -1), x.form(3, 0, NONE, 6));
        Check.dueAll("wrong before no such row", BAD, x.form(0, 0, 2, 0), x.form(0, 0, 0, 7), x.form(0, 0, NONE, 2));
        Check.due("counted", x.told(0), 15);
        Check.due("nothing kept", x.told(7), 1);
    }

    static void promise14_least() {
        PopovRows x = Given.after("c3; rx6,0,0; r0,x5,0; r0,0,2x4; rx,x2,1; r0,0,0;");
        Check.due("empty", x.least(0), 0);
        Check.due("zero", x.least(16), 0);
        Check.due("one", x.least(1), 6);
        Check.due("two", x.least(3), 11);
        Check.due("three", x.least(7), 15);
        Check.due("apart", x.least(8), 2);
        Check.due("degree of the determinant", x.least(11), x.det(11, NONE));
        Check.dueAll("wrong", BAD, x.least(32), x.least(-1), x.least(LEAST), x.least(MOST), x.least(48));
        Check.due("counted", x.told(0), 5);
    }

    static void promise15_same() {
        PopovRows x = Given.after("rx,1; r0,x; rx,1+x2; r3x,3; r0,0;");
        Check.due("itself", x.same(1, 1), 1);
        Check.due("a multiple", x.same(1, 8), 1);
        Check.due("a sum", x.same(3, 7), 1);
        Check.due("another basis, less", x.same(5, 3), 0);
        Check.due("another rank", x.same(1, 3), 0);
        Check.due("the other way", x.same(3, 1), 0);
        Check.due("same degrees", x.same(1, 2), 0);
        Check.due("empty", x.same(0, 0), 1);
        Check.due("empty and zero", x.same(0, 16), 1);
        Check.due("empty and one", x.same(0, 1), 0);
        Check.due("same rank and degrees", Given.after("r1,x; r2,x;").same(1, 2), 0);
        Check.dueAll("wrong", BAD, x.same(32, 0), x.same(0, 32), x.same(-1, 0), x.same(0, -1), x.same(LEAST, LEAST),
                x.same(0, MOST));
        Check.due("counted", x.told(0), 6);
    }

    static void promise16_rest() {
        PopovRows x = Given.after("rx2,0; r1,2x; rx3+4x+2,3x2; r0,0; r0,x6+x;");
        Check.dueText("by nothing", View.remainder(x, 2, 0), "2401,003");
        Check.dueText("by zero", View.remainder(x, 2, 8), "2401,003");
        Check.dueText("by one", View.remainder(x, 2, 1), "24,003");
        Check.dueText("by the other", View.remainder(x, 2, 2), "2601,");
        Check.dueText("by both", View.remainder(x, 2, 3), "26,");
        Check.dueText("of zero", View.remainder(x, 3, 7), ",");
        Check.dueText("of degree 6", View.remainder(x, 4, 3), "3,");
        Check.dueText("one column", View.remainder(Given.after("c1; p5; rx6+3; r2x2+1;"), 0, 2), "1");
        Check.dueAll("wrong", BAD, x.rest(5, 0, 0, 0), x.rest(-1, 0, 0, 0), x.rest(0, 1, 0, 0), x.rest(0, 3, 0, 0),
                x.rest(0, 32, 0, 0), x.rest(0, -2, 0, 0), x.rest(0, LEAST, 0, 0), x.rest(0, 2, 2, 0),
                x.rest(0, 2, -1, 0), x.rest(0, 2, 0, 7), x.rest(0, 2, 0, -1), x.rest(MOST, 0, 0, 0));
        Check.due("counted", x.told(0), 12);
        Check.due("nothing changed", x.of(2, 0, 3), 1);
    }

    static void promise17_made() {
        PopovRows x = Given.after("rx2,0; r1,2x; rx3+x2+3,6x; r0,0; r3,6x+x2;");
        Check.due("a combination", x.made(2, 3), 1);
        Check.due("not of one", x.made(2, 1), 0);
        Check.due("not of the other", x.made(2, 2), 0);
        Check.due("zero of none", x.made(3, 0), 1);
        Check.due("zero of some", x.made(3, 6), 1);
        Check.due("none of none", x.made(0, 0), 0);
        Check.due("none of zero", x.made(0, 8), 0);
        Check.due("too small a module", x.made(4, 3), 0);
        Check.due("with more rows than rank", x.made(2, 11), 1);
        Check.dueAll("wrong", BAD, x.made(5, 0), x.made(-1, 0), x.made(0, 1), x.made(2, 7), x.made(0, 32), x.made(0, -2),
                x.made(0, LEAST), x.made(LEAST, 0), x.made(MOST, 0), x.made(32, 1));
        Check.due("counted", x.told(0), 10);
    }

    static void promise18_factor() {
        PopovRows x = Given.after("rx2,0; r1,2x; rx3+x2+3,6x; r0,0; rx,0;");
        Check.dueText("of row 0", View.cofactor(x, 2, 3, 0), "11");
        Check.dueText("of row 1", View.cofactor(x, 2, 3, 1), "3");
        Check.dueText("of zero", View.cofactor(x, 3, 3, 1), "");
        Check.dueText("one row", View.cofactor(x, 0, 16, 4), "01");
        Check.due("the other way", x.factor(0, 6, 2, 0), NO);
        PopovRows z = Given.after("c2; r1,x6; r0,1; r1,0;");
        Check.dueText("of degree 0", View.cofactor(z, 2, 3, 0), "1");
        Check.dueText("of degree 6", View.cofactor(z, 2, 3, 1), "0000006");
        PopovRows deep = Given.after("c3; r1,x6,0; r0,1,x6; r0,0,1; r1,0,0;");
        Check.dueText("of degree 12, first", View.cofactor(deep, 3, 7, 0), "1");
        Check.dueText("of degree 12, second", View.cofactor(deep, 3, 7, 1), "0000006");
        Check.dueText("of degree 12, third", View.cofactor(deep, 3, 7, 2), "0000000000001");
        PopovRows deepest = Given.after("c3; r1,x6,0; r0,1,x6; r0,0,1; rx6,0,0;");
        Check.dueText("of degree 18", View.cofactor(deepest, 3, 7, 2), "0000000000000000001");
        Check.due("not generated", x.factor(4, 3, 0, 0), NO);
        Check.due("rank too small", x.factor(2, 11, 0, 0), NO);
        Check.due("rank too small, and not made", x.factor(4, 11, 0, 0), NO);
        Check.due("rank too small for a zero row", x.factor(3, 17, 0, 0), NO);
        Check.due("counted NO", x.told(1), 5);
        Check.dueAll("wrong", BAD, x.factor(5, 3, 0, 0), x.factor(-1, 3, 0, 0), x.factor(0, 3, 1, 0), x.factor(2, 35, 0, 0),
                x.factor(2, -5, 0, 0), x.factor(2, 3, 2, 0), x.factor(2, 3, 3, 0), x.factor(2, 3, -1, 0),
                x.factor(2, 3, 5, 0), x.factor(2, 3, 32, 0), x.factor(2, 3, 0, 25), x.factor(2, 3, 0, -1),
                x.factor(2, 0, 0, 0), x.factor(2, 3, LEAST, 0), x.factor(2, 3, 0, MOST));
        Check.dueAll("wrong before NO", BAD, x.factor(4, 3, 0, 25), x.factor(4, 3, 2, 0), x.factor(4, 16, 4, 0));
        Check.due("counted BAD", x.told(0), 18);
    }

    static void promise19_det() {
        PopovRows x = Given.after("rx,2; r3,x2+1; r2x,4; r0,5x6; r0,0;");
        Check.dueText("two rows", View.determinant(x, 3), "3:1101");
        Check.dueText("rows apart", View.determinant(x, 10), "6:0000001");
        Check.dueText("no rank", View.determinant(x, 5), "-1:");
        Check.dueText("zero row", View.determinant(x, 17), "-1:");
        Check.dueText("one column", View.determinant(Given.after("c1; rx; r3x6+2;"), 2), "6:2000003");
        Check.dueText("three columns", View.determinant(Given.after("c3; rx6,0,0; r0,x6,0; r0,0,3x6;"), 7), "18:0000000000000000003");
        Check.dueText("odd order", View.determinant(Given.after("c3; r0,x,0; r1,0,0; r0,0,1;"), 7), "1:06");
        Check.dueText("even order", View.determinant(Given.after("c3; r0,x,0; r0,0,1; r1,0,0;"), 7), "1:01");
        Check.dueText("all products", View.determinant(Given.after("c3; r1,2,3; r4,5,6; r0,1,5;"), 7), "0:5");
        Check.dueAll("not C rows", NO, x.det(1, 0), x.det(0, NONE), x.det(7, 18), x.det(31, 0));
        Check.due("counted NO", x.told(1), 4);
        Check.dueAll("wrong", BAD, x.det(33, 0), x.det(-1, 0), x.det(3, 19), x.det(3, -2), x.det(1, 19), x.det(32, 0),
                x.det(LEAST, 0), x.det(3, LEAST), x.det(3, MOST));
        Check.due("counted BAD", x.told(0), 9);
    }

    static void promise20_quotient() {
        PopovRows x = Given.after("r1+x+x2+x3+x4+x5+x6,0; r0,2x3; r0,1+x; r3,x6+1;");
        Check.dueText("a geometric sum", View.pade(x, 0, 0, 7), "6/61");
        Check.dueText("zero", View.pade(x, 0, 1, 7), "/1");
        Check.dueText("modulo x", View.pade(x, 0, 0, 1), "1/1");
        Check.dueText("powers of n or more", View.pade(x, 1, 1, 3), "/1");
        Check.dueText("just one below n", View.pade(x, 1, 1, 4), "/01");
        Check.dueText("in the middle", View.pade(x, 1, 1, 5), "/001");
        Check.dueText("itself", View.pade(x, 2, 1, 3), "11/1");
        Check.dueText("a constant", View.pade(x, 3, 0, 7), "3/1");
        Check.dueText("degree 6", View.pade(x, 3, 1, 6), "1/1");
        Check.dueText("in one column", View.pade(Given.after("c1; p2; rx6;"), 0, 0, 7), "/01");
        Check.dueText("in three columns", View.pade(Given.after("c3; p3; r0,0,1+x2;"), 0, 2, 3), "01/01");
        Check.dueAll("wrong", BAD, x.quotient(4, 0, 1, 0, 0), x.quotient(-1, 0, 1, 0, 0), x.quotient(0, 2, 1, 0, 0),
                x.quotient(0, -1, 1, 0, 0), x.quotient(0, 0, 0, 0, 0), x.quotient(0, 0, 8, 0, 0),
                x.quotient(0, 0, 1, 2, 0), x.quotient(0, 0, 1, -1, 0), x.quotient(0, 0, 1, 0, 8),
                x.quotient(0, 0, 1, 0, -1), x.quotient(0, 0, LEAST, 0, 0), x.quotient(0, 0, MOST, 0, 0));
        Check.due("counted", x.told(0), 12);
        Check.due("no room for 3 columns", x.told(5), 2);
    }

    static void promise21_type() {
        PopovRows x = new PopovRows();
        Check.dueAll("wrong", BAD, x.type(-1), x.type(128), x.type(256 + 'r'), x.type(LEAST), x.type(MOST));
        Check.due("counted", x.told(0), 5);
        for (int i = 1; i <= 150; i++) {
            Check.due("length", x.type(i % 2 == 0 ? 0 : 127), i);
        }
        Check.due("no room", x.type(32), FULL);
        Check.due("no room, and wrong", x.type(128), BAD);
        Check.due("counted FULL", x.told(2), 1);
        Check.due("length told", x.told(3), 150);
        Check.due("a byte that cannot stand", x.reads(), -10);
        Check.due("nothing kept", x.told(7), 0);
        PopovRows full = new PopovRows();
        StringBuilder text = new StringBuilder();
        for (int i = 0; i < 50; i++) {
            text.append("p7;");
        }
        Check.due("all 150 bytes are read", Given.reads(full, text.toString()), 50);
    }

    static void promise22_clear() {
        PopovRows x = new PopovRows();
        Check.due("empty", x.clear(), 0);
        Check.due("first", Given.reads(x, "r1,x;"), 1);
        Check.due("length", x.clear(), 5);
        Check.due("cleared", x.clear(), 0);
        Check.due("told", x.told(3), 0);
        Check.due("nothing stands", x.reads(), -10);
        Check.due("length after", x.type('c'), 1);
        x.type('3');
        x.type(';');
        Check.due("only the new text", x.reads(), 1);
        Check.dueText("state", View.state(x), "7/3");
        Check.due("back does not touch the text", x.back() + x.told(3), 1 + 3);
    }

    private static void dueFault(String text, int fault) {
        PopovRows x = Given.after("r1,x;");
        String old = View.state(x);
        Check.due("fault of '" + text + "'", Given.reads(x, text), -10 - fault);
        Check.dueText("nothing done by '" + text + "'", View.state(x), old);
        Check.due("nothing kept by '" + text + "'", x.told(7), 1);
        Check.due("nothing counted by '" + text + "'", x.told(0) + x.told(1) + x.told(2), 0);
        Check.due("why(0) after '" + text + "'", x.why(0), 0);
        Check.due("the text stays", x.told(3), text.length());
    }

    private static void dueRead(String text, int commands, String want) {
        PopovRows x = Given.after("r1,x;");
        Check.due("commands of '" + text + "'", Given.reads(x, text), commands);
        Check.dueText("state after '" + text + "'", View.state(x), want);
        Check.due("one state for '" + text + "'", x.told(7), 2);
        Check.due("the text stays", x.told(3), text.length());
        Check.due("back", x.back(), 1);
        Check.dueText("state before '" + text + "'", View.state(x), "7/2 (1,01)");
    }

    private static void dueStop(String text, int index, int error) {
        PopovRows x = Given.after("r1,x;");
        Check.due("stop of '" + text + "'", Given.reads(x, text), -1000 - index);
        Check.due("error of '" + text + "'", x.why(0), error);
        Check.due("index of '" + text + "'", x.why(1), index);
        Check.dueText("nothing done by '" + text + "'", View.state(x), "7/2 (1,01)");
        Check.due("nothing kept by '" + text + "'", x.told(7), 1);
        Check.due("nothing counted by '" + text + "'", x.told(0) + x.told(1) + x.told(2), 0);
    }

    static void promise23_commands() {
        dueRead("p5;", 1, "5/2");
        dueRead("p7;", 1, "7/2");
        dueRead("c3;", 1, "7/3");
        dueRead("r0,0;", 1, "7/2 (1,01) (,)");
        dueRead("x0;", 1, "7/2");
        dueRead("m0;", 1, "7/2 (1,01)");
        dueRead("r3x,5;m1;", 2, "7/2 (1,01) (01,4)");
        dueRead("rx,1;s0132;", 2, "7/2 (1003,013) (01,1)");
        dueRead("rx,1;s1060;", 2, "7/2 (1,01) (61,16)");
        dueRead("r8,9x6;", 1, "7/2 (1,01) (1,0000002)");
        dueRead("r7+7x,x+x+x;", 1, "7/2 (1,01) (,03)");
        dueRead("rx+2x+4x,9x2+1+x2+6;", 1, "7/2 (1,01) (,003)");
        dueRead("p2;rx1+x2,3x3+2;", 2, "2/2 (011,0001)");
        dueRead("c1;r1;r2x;p3;r5;c2;r1,2;", 7, "3/2 (1,2)");
        dueRead("c3;rx4,x5,x6;", 2, "7/3 (00001,000001,0000001)");
        dueRead("x0;r1,2;r3,4;x0;", 4, "7/2 (3,4)");
        dueRead("  r 1 + 2 x3  + x , 5 x ;  x 0 ; ", 2, "7/2 (1102,05)");
        dueRead(" r1,1; s 1 0 2 1 ; ", 2, "7/2 (1,01) (12,102)");
        dueRead("p 3 ; c 1 ;", 2, "3/1");
        dueRead("r1,1;s0100;", 2, "7/2 (1,01) (1,1)");
    }

    static void promise23_faults() {
        String[] empty = {"", " ", "     "};
        for (String text : empty) {
            dueFault(text, text.length());
        }
        String[] early = {"p", "p5", "p5 ", "c", "c1", "r", "r1", "r1+", "r1,", "r1,2", "rx", "rx ", "rx2", "r1,x ",
            "x", "x0", "s", "s0", "s01", "s010", "s0100", "m", "m0", "p5;c", "p5; r", "r1,1;x0", "r2 "};
        for (String text : early) {
            dueFault(text, text.length());
        }
        String[] lastIsWrong = {"q", ";", "P", "5", "p1", "p4", "p0", "p6", "p8", "p9", "px", "p;", "p55", "p5,", "c0", "c4", "c9",
            "c;", "c11", "r;", "r,", "r+", "r-", "r1;", "r1 2", "r12", "rxx", "rx0", "rx7", "rx9", "rx 2", "rx22",
            "r2x x", "rx2x", "rx*", "r1,2,", "r1,,", "r1,;", "r1,2+;", "r1,+", "r1++", "x;", "xx", "x01", "x0,",
            "s;", "s01;", "s010;", "s01000", "s01x", "m;", "mx", "m00", "p5;q", "p5;;", "p5;5", "c1;rx,", "c3;rx,1;",
            "c2;rx;", "c1;c3;rx,x;", "\t", "p\t", "r1,\u0000", "r1,1;\u007f", "r3 x 1", "rx 1", "rx 6"};
        for (String text : lastIsWrong) {
            dueFault(text, text.length() - 1);
            dueFault(text + "p5;", text.length() - 1);
        }
        dueFault("x9;q", 3);
        dueFault("m5;s0999;p4;", 10);
        dueFault("p5;r1,1;m0;x", 12);
    }

    static void promise23_stops() {
        dueStop("x1;", 0, 2);
        dueStop("x9;", 0, 2);
        dueStop("x0;m0;", 1, 2);
        dueStop("m1;", 0, 2);
        dueStop("r0,0;m1;", 1, 3);
        dueStop("s0100;", 0, 2);
        dueStop("s0000;", 0, 2);
        dueStop("r1,1;s0170;", 1, 2);
        dueStop("r1,1;s0107;", 1, 2);
        dueStop("rx4,0;s0113;", 1, 4);
        dueStop("r1,1;r1,1;r1,1;r1,1;r1,1;", 4, 4);
        dueStop("p5;x0;", 1, 2);
        dueStop("c3;r1,2,3;r0,0,0;m0;m1;x7;", 4, 3);
        dueStop("m0;x0;x0;m0;r0,0;m0;", 2, 2);
        PopovRows x = Given.after("r1,1;");
        for (int i = 0; i < 4; i++) {
            x.sets(0, 0, 0, i);
        }
        Check.due("five states", x.told(7), 5);
        Check.due("a stop", Given.reads(x, "x1;"), -1000);
        Check.due("a fault", Given.reads(x, "x"), -11);
        for (int i = 4; i >= 0; i--) {
            Check.due("all of them are there still", x.back(), i);
        }
        Check.dueText("the first state", View.state(x), "7/2");
    }

    static void promise24_why() {
        PopovRows x = new PopovRows();
        Check.dueAll("wrong", BAD, x.why(2), x.why(-1), x.why(MOST), x.why(LEAST));
        Check.due("counted", x.told(0), 4);
        Given.reads(x, "r0,0;m0;");
        Check.due("NO", x.why(0), 3);
        Check.due("at", x.why(1), 1);
        Given.reads(x, "r0,0;r0,0;");
        Check.due("after a success", x.why(0), 3);
        Check.due("at, after a success", x.why(1), 1);
        Given.reads(x, "q");
        Check.due("after a fault", x.why(0), 3);
        x.drops(7);
        x.back();
        x.clear();
        Check.due("after other calls", x.why(0), 3);
        Check.due("at, after other calls", x.why(1), 1);
        Given.reads(x, "x0;");
        Check.due("BAD", x.why(0), 2);
        Check.due("at the first", x.why(1), 0);
        Given.reads(x, "r1,1;r1,1;r1,1;r1,1;r1,1;r1,1;");
        Check.due("FULL", x.why(0), 4);
        Check.due("at the sixth", x.why(1), 5);
    }

    static void promise25_back() {
        PopovRows x = new PopovRows();
        Check.due("none", x.back(), NO);
        x.prime(5);
        x.columns(3);
        x.row();
        x.sets(0, 2, 1, 4);
        Check.due("kept", x.told(7), 4);
        Check.due("sets", x.back(), 3);
        Check.dueText("before sets", View.state(x), "5/3 (,,)");
        Check.due("row", x.back(), 2);
        Check.dueText("before row", View.state(x), "5/3");
        Check.due("columns", x.back(), 1);
        Check.dueText("before columns", View.state(x), "5/2");
        Check.due("prime", x.back(), 0);
        Check.dueText("before prime", View.state(x), "7/2");
        Check.due("no more", x.back(), NO);
        Check.due("counted", x.told(1), 2);
        PopovRows y = Given.after("c1; r1; rx; r2x2;");
        y.steps(0, 1, 1, 1);
        y.monic(2);
        y.drops(1);
        y.sets(0, 0, 0, 5);
        y.prime(2);
        Check.due("five at most", y.told(7), 5);
        for (int i = 4; i >= 0; i--) {
            Check.due("left", y.back(), i);
        }
        Check.dueText("the oldest", View.state(y), "7/1 (1) (01) (002)");
        Check.due("the sixth is forgotten", y.back(), NO);
        PopovRows z = Given.after("c1; r1;");
        for (int i = 0; i < 20; i++) {
            z.sets(0, 0, 1 + i / 7, i);
            z.sets(0, 0, 6, i);
            z.back();
        }
        Check.due("kept after going to and fro", z.told(7), 4);
        Check.due("the last one", z.back(), 3);
        Check.dueText("state", View.state(z), "7/1 (1664)");
        z.row();
        Check.due("kept again", z.told(7), 4);
        z.back();
        Check.dueText("state again", View.state(z), "7/1 (1664)");
        PopovRows errors = new PopovRows();
        errors.row();
        errors.drops(5);
        errors.back();
        Check.due("errors stay counted", errors.told(0), 1);
    }

    static void promise26_told() {
        PopovRows x = Given.after("p3; c3; r1,1,1; r0,0,0;");
        Check.dueAll("wrong", BAD, x.told(8), x.told(-1), x.told(MOST), x.told(LEAST));
        x.monic(1);
        x.monic(1);
        x.row();
        x.row();
        x.row();
        x.row();
        Given.types(x, "abc");
        int[] want = {4, 2, 1, 3, 3, 3, 5, 4};
        for (int what = 0; what < want.length; what++) {
            Check.due("told " + what, x.told(what), want[what]);
        }
    }

    public static void main(String[] args) {
        Check.runAll(PromisesTest.class);
    }
}
