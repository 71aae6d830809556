import java.math.BigInteger;
import java.util.function.Supplier;

/** Promises 25 to 27, and what holds for states and errors of all calls, by promise and case. */
public final class StateEdgesTest {
    private static final int BAD = Check.BAD;
    private static final int NO = Check.NO;
    private static final int FULL = Check.FULL;
    private static final int NONE = Check.NONE;

    private static final Supplier<PopovRows> BUSY = Given.busy("p5; c2; r1+2x,3x6; r4,x2;");

    // ---- 25: back

    static void promise25_noIfNoneIsKept() {
        Check.dueRefused("a new object", PopovRows::new, NO, PopovRows::back);
        PopovRows x = new PopovRows();
        x.row();
        Check.due("one", x.back(), 0);
        Check.dueAll("no more", NO, x.back(), x.back());
        Check.due("counted", x.told(1), 2);
        x.row();
        Check.due("one again", x.back(), 0);
    }

    static void promise25_fiveAreKeptAndTheSixthForgetsTheFirst() {
        for (int changes = 0; changes <= 12; changes++) {
            PopovRows x = new PopovRows();
            for (int i = 1; i <= changes; i++) {
                x.columns(1 + i % 3);
            }
            int kept = Math.min(5, changes);
            Check.due(changes + " changes: kept", x.told(7), kept);
            for (int left = kept - 1; left >= 0; left--) {
                int undone = kept - left;
                int columns = undone == changes ? 2 : 1 + (changes - undone) % 3;
                Check.due(changes + " changes: left", x.back(), left);
                Check.due(changes + " changes: C", x.told(5), columns);
            }
            Check.due(changes + " changes: no more", x.back(), NO);
        }
    }

    static void promise25_eachStateComesBackLatestFirst() {
        PopovRows x = Given.after("c1; r0;");
        for (int i = 1; i <= 9; i++) {
            x.sets(0, 0, i % 7, 1 + i % 6);
        }
        Check.dueText("the latest", View.state(x), "7/1 (2344561)");
        String[] before = {"7/1 (2334561)", "7/1 (2234561)", "7/1 (0234561)", "7/1 (023456)", "7/1 (02345)"};
        for (int i = 0; i < before.length; i++) {
            Check.due("left", x.back(), 4 - i);
            Check.dueText("back " + (i + 1), View.state(x), before[i]);
        }
    }

    static void promise25_eachChangingCallIsUndone() {
        Check.dueKept("prime", BUSY, x -> x.prime(2));
        Check.dueKept("columns", BUSY, x -> x.columns(3));
        Check.dueKept("row", BUSY, PopovRows::row);
        Check.dueKept("sets", BUSY, x -> x.sets(1, 1, 6, 3));
        Check.dueKept("drops", BUSY, x -> x.drops(0));
        Check.dueKept("steps", BUSY, x -> x.steps(1, 0, 3, 0));
        Check.dueKept("monic", BUSY, x -> x.monic(0));
        Check.dueKept("reads", BUSY, PopovRows::reads);
    }

    static void promise25_keptThoughNothingChanges() {
        Check.dueKept("prime", Given.busy("p5; c1;"), x -> x.prime(5));
        Check.dueKept("columns", Given.busy("p5; c1;"), x -> x.columns(1));
        Check.dueKept("sets", BUSY, x -> x.sets(0, 0, 0, 1));
        Check.dueKept("steps", BUSY, x -> x.steps(0, 1, 0, 0));
        Check.dueKept("monic", Given.busy("r1,x;"), x -> x.monic(0));
        PopovRows x = new PopovRows();
        Given.reads(x, "p7;");
        Check.due("reads", x.told(7), 1);
    }

    static void promise25_otherCallsKeepNothing() {
        Check.dueAllowed("of", BUSY, x -> x.of(0, 0, 0));
        Check.dueAllowed("about", BUSY, x -> x.about(0, 0));
        Check.dueAllowed("next", BUSY, x -> x.next(0));
        Check.dueAllowed("rank", BUSY, x -> x.rank(3));
        Check.dueAllowed("form", BUSY, x -> x.form(3, 0, 0, 0));
        Check.dueAllowed("least", BUSY, x -> x.least(3));
        Check.dueAllowed("same", BUSY, x -> x.same(3, 1));
        Check.dueAllowed("rest", BUSY, x -> x.rest(0, 2, 0, 0));
        Check.dueAllowed("made", BUSY, x -> x.made(0, 2));
        Check.dueAllowed("factor", Given.busy("c1; rx; r1;"), x -> x.factor(0, 2, 1, 0));
        Check.dueAllowed("det", BUSY, x -> x.det(3, NONE));
        Check.dueAllowed("quotient", BUSY, x -> x.quotient(0, 0, 3, 0, 0));
        Check.dueAllowed("why", BUSY, x -> x.why(0));
        Check.dueAllowed("told", BUSY, x -> x.told(0));
        Check.dueAllowed("digest", BUSY, x -> (int) (x.digest() >>> 63));
    }

    static void promise25_aStateThatWasGoneBackToIsNotKept() {
        PopovRows x = Given.after("c1; r1;");
        x.sets(0, 0, 0, 2);
        x.sets(0, 0, 0, 3);
        Check.due("two more", x.told(7), 3);
        Check.due("back", x.back(), 2);
        Check.dueText("to two", View.state(x), "7/1 (2)");
        Check.due("back", x.back(), 1);
        Check.dueText("to one", View.state(x), "7/1 (1)");
        x.sets(0, 0, 0, 4);
        Check.due("back", x.back(), 1);
        Check.dueText("to one, not to two or three", View.state(x), "7/1 (1)");
        Check.due("back", x.back(), 0);
        Check.dueText("to the first", View.state(x), "7/2");
    }

    static void promise25_aKeptStateIsNotChangedByLaterCalls() {
        PopovRows x = Given.after("c3; r1,2,3; r4,5,6;");
        x.drops(0);
        x.sets(0, 1, 6, 1);
        x.back();
        x.sets(0, 0, 0, 0);
        x.back();
        Check.dueText("behind drops", View.state(x), "7/3 (4,5,6)");
        x.back();
        Check.dueText("before drops", View.state(x), "7/3 (1,2,3) (4,5,6)");
    }

    static void promise25_textWhyAndTotalsAreNoPartOfAState() {
        PopovRows x = new PopovRows();
        x.row();
        Given.reads(x, "m0;");
        x.drops(5);
        x.monic(0);
        Given.types(x, "p5;c");
        x.back();
        Check.due("length", x.told(3), 4);
        Check.due("why(0)", x.why(0), 3);
        Check.due("why(1)", x.why(1), 0);
        Check.dueText("errors", View.errors(x), "1 1 0");
        Check.due("the text", x.reads(), -10 - 4);
    }

    // ---- 26: told

    static void promise26_whatZeroToSeven() {
        Check.dueRange("what", BUSY, 0, 7, PopovRows::told);
        Check.dueRange("what of a new object", PopovRows::new, 0, 7, PopovRows::told);
    }

    static void promise26_aWrongCallOfItselfIsCounted() {
        PopovRows x = new PopovRows();
        for (int calls = 1; calls <= 3; calls++) {
            Check.due("told(8)", x.told(8), BAD);
            Check.due("counted", x.told(0), calls);
        }
    }

    static void promise26_eachErrorHasItsOwnCount() {
        PopovRows x = Given.after("c1; r0;r1;r1;r1;r1;");
        Check.dueText("none", View.errors(x), "0 0 0");
        x.drops(5);
        Check.dueText("BAD", View.errors(x), "1 0 0");
        x.monic(0);
        x.monic(0);
        Check.dueText("NO", View.errors(x), "1 2 0");
        x.row();
        x.row();
        x.row();
        Check.dueText("FULL", View.errors(x), "1 2 3");
        x.det(3, 0);
        x.factor(1, 1, 0, 0);
        x.back();
        x.back();
        Check.dueText("NO of other calls", View.errors(x), "1 5 3");
    }

    static void promise26_otherNegativeAnswersAreNotCounted() {
        PopovRows x = Given.after("r0,0; r1,1; r1,1;");
        Check.due("NONE of about", x.about(0, 0), NONE);
        Check.due("NONE of next", new PopovRows().next(0), NONE);
        Check.due("NONE of det", x.det(3, NONE), NONE);
        Check.due("NONE of steps", x.steps(1, 2, 6, 0), NONE);
        Check.due("NONE of why", x.why(1), NONE);
        Check.due("-5 of form", x.form(0, 0, 0, 0), -5);
        Check.due("a fault", x.reads(), -10);
        Check.due("a stop with BAD", Given.reads(x, "x7;"), -1000);
        Check.due("a stop with NO", Given.reads(x, "m0;"), -1000);
        Check.due("a stop with FULL", Given.reads(x, "r1,1;r1,1;r1,1;"), -1002);
        Check.dueText("errors", View.errors(x), "0 0 0");
    }

    static void promise26_fiveHundredCallsAreCounted() {
        PopovRows x = new PopovRows();
        for (int calls = 1; calls <= 511; calls++) {
            x.type(-1);
        }
        Check.due("errors", x.told(0), 511);
        PopovRows y = new PopovRows();
        for (int calls = 1; calls <= 509; calls++) {
            y.prime(calls % 2 == 0 ? 2 : 7);
        }
        Check.due("kept", y.told(7), 5);
        Check.due("p", y.told(4), 7);
        Check.due("back", y.back(), 4);
    }

    static void promise26_theTotalsOfTheState() {
        for (int p : Given.PRIMES) {
            for (int c = 1; c <= 3; c++) {
                PopovRows x = new PopovRows();
                x.prime(p);
                x.columns(c);
                Check.due("p", x.told(4), p);
                Check.due("C", x.told(5), c);
                for (int rows = 0; rows <= 5; rows++) {
                    Check.due("rows", x.told(6), rows);
                    Check.due("kept", x.told(7), Math.min(5, 2 + rows));
                    x.row();
                }
                Check.due("rows", x.told(6), 5);
                x.drops(2);
                Check.due("rows", x.told(6), 4);
            }
        }
    }

    static void promise26_theLengthOfTheText() {
        PopovRows x = new PopovRows();
        Check.due("empty", x.told(3), 0);
        for (int i = 1; i <= 150; i++) {
            x.type(' ');
        }
        Check.due("full", x.told(3), 150);
        x.reads();
        Check.due("read", x.told(3), 150);
        x.clear();
        Check.due("cleared", x.told(3), 0);
    }

    // ---- 27: digest

    private static final BigInteger WRAP = BigInteger.ONE.shiftLeft(64);

    private static BigInteger mixed(BigInteger h, long... values) {
        for (long v : values) {
            h = h.multiply(BigInteger.valueOf(31)).add(BigInteger.valueOf(v));
        }
        return h;
    }

    /** The hash in numbers without an end, which is cut to a long only here. */
    private static long digestOf(PopovRows x) {
        BigInteger h = BigInteger.valueOf(2441);
        for (int what = 0; what <= 7; what++) {
            h = mixed(h, x.told(what));
        }
        h = mixed(h, x.why(0), x.why(1));
        for (int i = 0; i < x.told(6); i++) {
            h = mixed(h, x.about(i, 0), x.about(i, 1), x.about(i, 2));
            for (int c = 0; c < x.told(5); c++) {
                for (int k = 0; k <= 6; k++) {
                    h = mixed(h, x.of(i, c, k));
                }
            }
        }
        int all = (1 << x.told(6)) - 1;
        return mixed(h, x.rank(all), x.least(all), x.next(0), x.next(1)).mod(WRAP).longValue();
    }

    private static void dueDigest(String what, PopovRows x) {
        long want = digestOf(x);
        Check.due(what, x.digest(), want);
        Check.due(what + ", again", x.digest(), want);
    }

    static void promise27_ofANewObjectByHand() {
        BigInteger h = mixed(BigInteger.valueOf(2441), 0, 0, 0, 0, 7, 2, 0, 0, 0, -1, 0, 0, -1, -1);
        Check.due("new", new PopovRows().digest(), h.mod(WRAP).longValue());
    }

    static void promise27_ofRowsByHand() {
        BigInteger h = mixed(BigInteger.valueOf(2441), 0, 0, 0, 0, 5, 3, 2, 1, 0, -1);
        h = mixed(h, 6, 2, 4, 1, 2, 0, 0, 0, 0, 3, 0, 0, 0, 0, 0, 0, 0, 0, 0, 0, 0, 0, 0, 4);
        h = mixed(h, -1, -1, 0, 0, 0, 0, 0, 0, 0, 0, 0, 0, 0, 0, 0, 0, 0, 0, 0, 0, 0, 0, 0, 0);
        h = mixed(h, 1, 6, -1, -1);
        PopovRows x = Given.after("p5; c3; r1+2x+3x6,0,4x6; r0,0,0;");
        Check.due("two rows", x.digest(), h.mod(WRAP).longValue());
    }

    static void promise27_ofZeroToFiveRowsInOneToThreeColumns() {
        for (int c = 1; c <= 3; c++) {
            for (int rows = 0; rows <= 5; rows++) {
                dueDigest(rows + " rows, " + c + " columns", Given.busyRows(c, rows).get());
            }
        }
        dueDigest("zero rows", Given.after("p2; c1; r0; r0; r0; r0; r0;"));
        dueDigest("full", Given.after("c3; r6x6+6,6x6,6x6; r6,6x6,6x3; rx5,5x,x4; r1,2,3x6; rx,6,5x2;"));
        dueDigest("no next step", BUSY.get());
        dueDigest("a next step of later rows", Given.after("c3; r0,0,x; rx,0,0; r0,x,0; r0,0,0; r0,x6,0;"));
    }

    static void promise27_ofErrorsTextsAndStops() {
        PopovRows x = BUSY.get();
        x.told(9);
        x.det(1, 0);
        x.columns(1);
        Given.types(x, Given.repeated("r1;", 50));
        x.type(' ');
        dueDigest("FULL and 150 bytes", x);
        x.reads();
        Check.due("stopped", x.why(1), 5);
        dueDigest("a stop", x);
        x.clear();
        dueDigest("an empty text", x);
        x.back();
        dueDigest("back", x);
    }

    static void promise27_notOfTheBytesNorOfKeptRows() {
        PopovRows x = Given.after("r1,1;");
        PopovRows y = Given.after("r2,2;");
        x.prime(7);
        y.prime(7);
        Given.types(x, "abc");
        Given.types(y, "p5;");
        Check.due("the same list", x.digest(), y.digest());
    }

    static void promise27_changesNothing() {
        Check.dueAllowed("digest", BUSY, x -> x.digest() == 0 ? 0 : 1);
        Check.dueAllowed("of a new object", PopovRows::new, x -> x.digest() == 0 ? 0 : 1);
    }

    // ---- errors of all calls

    static void promise26_eachCallThatIsBadIsCountedOnce() {
        Check.dueRefused("prime", BUSY, BAD, x -> x.prime(1));
        Check.dueRefused("columns", BUSY, BAD, x -> x.columns(0));
        Check.dueRefused("sets", BUSY, BAD, x -> x.sets(2, 2, 7, 1));
        Check.dueRefused("drops", BUSY, BAD, x -> x.drops(2));
        Check.dueRefused("steps", BUSY, BAD, x -> x.steps(2, 2, 7, 7));
        Check.dueRefused("monic", BUSY, BAD, x -> x.monic(2));
        Check.dueRefused("of", BUSY, BAD, x -> x.of(2, 2, 7));
        Check.dueRefused("about", BUSY, BAD, x -> x.about(2, 3));
        Check.dueRefused("next", BUSY, BAD, x -> x.next(4));
        Check.dueRefused("rank", BUSY, BAD, x -> x.rank(4));
        Check.dueRefused("form", BUSY, BAD, x -> x.form(4, -1, 2, 7));
        Check.dueRefused("least", BUSY, BAD, x -> x.least(4));
        Check.dueRefused("same", BUSY, BAD, x -> x.same(4, 4));
        Check.dueRefused("rest", BUSY, BAD, x -> x.rest(2, 4, 2, 7));
        Check.dueRefused("made", BUSY, BAD, x -> x.made(2, 4));
        Check.dueRefused("factor", BUSY, BAD, x -> x.factor(2, 4, 2, 25));
        Check.dueRefused("det", BUSY, BAD, x -> x.det(4, 19));
        Check.dueRefused("quotient", BUSY, BAD, x -> x.quotient(2, 2, 0, 2, 8));
        Check.dueRefused("type", BUSY, BAD, x -> x.type(128));
        Check.dueRefused("why", BUSY, BAD, x -> x.why(2));
        Check.dueRefused("told", BUSY, BAD, x -> x.told(8));
    }

    static void promise26_eachCallThatIsNotPossibleIsCountedOnce() {
        Check.dueRefused("monic", Given.busy("r0,0;"), NO, x -> x.monic(0));
        Check.dueRefused("factor", BUSY, NO, x -> x.factor(0, 2, 1, 0));
        Check.dueRefused("det", BUSY, NO, x -> x.det(1, 0));
        Check.dueRefused("back", PopovRows::new, NO, PopovRows::back);
    }

    static void promise26_eachCallWithoutRoomIsCountedOnce() {
        Check.dueRefused("row", Given.busyRows(2, 5), FULL, PopovRows::row);
        Check.dueRefused("steps", BUSY, FULL, x -> x.steps(1, 0, 1, 1));
        Supplier<PopovRows> full = () -> {
            PopovRows x = BUSY.get();
            Given.types(x, Given.repeated(" ", 147) + "p3;");
            return x;
        };
        Check.dueRefused("type", full, FULL, x -> x.type(';'));
    }

    public static void main(String[] args) {
        Check.runAll(StateEdgesTest.class);
    }
}
