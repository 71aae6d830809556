/** The four examples of the document, each on a new object. */
public final class ExamplesTest {
    private static void dueTypes(PopovRows x, String text) {
        for (int i = 0; i < text.length(); i++) {
            Check.due("type(" + (int) text.charAt(i) + ")", x.type(text.charAt(i)), i + 1);
        }
    }

    private static void first() {
        PopovRows x = new PopovRows();
        dueTypes(x, "rx2,1;rx,0;");
        Check.due("1: reads()", x.reads(), 2);
        Check.due("1: rank(3)", x.rank(3), 2);
        Check.due("1: form(3, 0, -1, 1)", x.form(3, 0, -1, 1), 1);
        Check.due("1: next(0)", x.next(0), 0);
        Check.due("1: det(3, -1)", x.det(3, -1), 1);
    }

    private static void second() {
        PopovRows x = new PopovRows();
        Check.due("2: prime(4)", x.prime(4), -2);
        Check.due("2: prime(2)", x.prime(2), 7);
        Check.due("2: columns(1)", x.columns(1), 2);
        Check.due("2: row()", x.row(), 0);
        Check.due("2: sets(0, 0, 3, -1)", x.sets(0, 0, 3, -1), 0);
        Check.due("2: row()", x.row(), 1);
        Check.due("2: sets(1, 0, 1, 1)", x.sets(1, 0, 1, 1), 0);
        Check.due("2: made(0, 2)", x.made(0, 2), 1);
        Check.due("2: factor(0, 2, 1, 2)", x.factor(0, 2, 1, 2), 1);
        Check.due("2: rest(1, 1, 0, 1)", x.rest(1, 1, 0, 1), 1);
        Check.due("2: steps(0, 1, 1, 2)", x.steps(0, 1, 1, 2), -1);
        Check.due("2: steps(0, 1, 1, 6)", x.steps(0, 1, 1, 6), -4);
        Check.due("2: monic(0)", x.monic(0), -3);
        Check.due("2: back()", x.back(), 4);
        Check.due("2: same(3, 2)", x.same(3, 2), 1);
        Check.due("2: told(1)", x.told(1), 1);
    }

    private static void third() {
        PopovRows x = new PopovRows();
        dueTypes(x, "s0100;");
        Check.due("3: reads()", x.reads(), -1000);
        Check.due("3: why(0)", x.why(0), 2);
        Check.due("3: why(1)", x.why(1), 0);
        Check.due("3: clear()", x.clear(), 6);
        dueTypes(x, "p4");
        Check.due("3: reads()", x.reads(), -11);
        Check.due("3: told(0)", x.told(0), 0);
        Check.due("3: back()", x.back(), -3);
    }

    private static void fourth() {
        PopovRows x = new PopovRows();
        Check.due("4: row()", x.row(), 0);
        Check.due("4: sets(0, 0, 0, 1)", x.sets(0, 0, 0, 1), 0);
        Check.due("4: sets(0, 0, 1, 1)", x.sets(0, 0, 1, 1), 0);
        Check.due("4: quotient(0, 0, 3, 0, 0)", x.quotient(0, 0, 3, 0, 0), 1);
        Check.due("4: quotient(0, 0, 3, 1, 0)", x.quotient(0, 0, 3, 1, 0), 1);
        Check.due("4: quotient(0, 0, 3, 1, 1)", x.quotient(0, 0, 3, 1, 1), 0);
        Check.due("4: about(0, 1)", x.about(0, 1), 0);
        Check.due("4: rank(0)", x.rank(0), 0);
        Check.due("4: rank(2)", x.rank(2), -2);
        Check.due("4: least(1)", x.least(1), 1);
        Check.due("4: form(0, 0, 0, 0)", x.form(0, 0, 0, 0), -5);
        Check.due("4: factor(0, 0, 0, 0)", x.factor(0, 0, 0, 0), -2);
        Check.due("4: det(1, 0)", x.det(1, 0), -3);
        Check.due("4: monic(0)", x.monic(0), 1);
        Check.due("4: drops(0)", x.drops(0), 0);
        Check.due("4: digest()", x.digest(), -5244815134586386937L);
    }

    public static void main(String[] args) {
        Check.begin("example");
        first();
        second();
        third();
        fourth();
        Check.finish("ExamplesTest");
    }
}
