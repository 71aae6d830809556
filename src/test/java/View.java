import java.util.function.IntFunction;
import java.util.function.IntUnaryOperator;

/** What can be seen of an object, written out as a text. Polynomials are digits from the power 0 on. */
final class View {
    private View() {
    }

    /** A polynomial without the zeros behind its last number. */
    static String polynomial(int most, IntUnaryOperator numbers) {
        StringBuilder digits = new StringBuilder();
        int end = 0;
        for (int k = 0; k <= most; k++) {
            int number = numbers.applyAsInt(k);
            digits.append(number);
            end = number == 0 ? end : digits.length();
        }
        return digits.substring(0, end);
    }

    static String entry(PopovRows x, int i, int c) {
        return polynomial(6, k -> x.of(i, c, k));
    }

    /** The polynomials of all columns. */
    private static String columns(PopovRows x, IntFunction<String> column) {
        StringBuilder text = new StringBuilder();
        for (int c = 0; c < x.told(5); c++) {
            text.append(c == 0 ? "" : ",").append(column.apply(c));
        }
        return text.toString();
    }

    /** p, C and all rows. */
    static String state(PopovRows x) {
        StringBuilder text = new StringBuilder();
        text.append(x.told(4)).append('/').append(x.told(5));
        for (int i = 0; i < x.told(6); i++) {
            int row = i;
            text.append(" (").append(columns(x, c -> entry(x, row, c))).append(')');
        }
        return text.toString();
    }

    static String errors(PopovRows x) {
        return x.told(0) + " " + x.told(1) + " " + x.told(2);
    }

    static String totals(PopovRows x) {
        return errors(x) + " " + x.told(3) + " " + x.told(7);
    }

    /**
     * All but the counts of errors, with the states that are kept and the text that stands: the
     * object goes back through all of them and then reads the text.
     */
    static String all(PopovRows x) {
        StringBuilder text = new StringBuilder();
        text.append("length ").append(x.told(3)).append(", why ").append(x.why(0)).append(' ').append(x.why(1));
        text.append(", state ").append(state(x)).append(", kept ").append(x.told(7));
        int left = x.back();
        for (int i = 0; i < 6 && left >= 0; i++) {
            text.append(", ").append(left).append(": ").append(state(x));
            left = x.back();
        }
        text.append(", reads ").append(x.reads()).append(": ").append(state(x));
        return text.toString();
    }

    /** The rows of a Popov form, each as degree@pivot(entries). */
    static String form(PopovRows x, int set) {
        StringBuilder text = new StringBuilder();
        for (int i = 0; i < 5 && x.form(set, i, PopovRows.NONE, 0) != -5; i++) {
            int row = i;
            text.append(i == 0 ? "" : " ").append(x.form(set, i, PopovRows.NONE, 0)).append('@');
            text.append(x.form(set, i, PopovRows.NONE, 1)).append('(');
            text.append(columns(x, c -> polynomial(6, k -> x.form(set, row, c, k)))).append(')');
        }
        return text.toString();
    }

    static String remainder(PopovRows x, int i, int set) {
        return columns(x, c -> polynomial(6, k -> x.rest(i, set, c, k)));
    }

    static String cofactor(PopovRows x, int i, int set, int j) {
        return polynomial(24, k -> x.factor(i, set, j, k));
    }

    /** The degree, then the polynomial. */
    static String determinant(PopovRows x, int set) {
        return x.det(set, PopovRows.NONE) + ":" + polynomial(18, k -> x.det(set, k));
    }

    /** N/D of a Pade approximant. */
    static String pade(PopovRows x, int i, int c, int n) {
        return polynomial(7, k -> x.quotient(i, c, n, 0, k)) + "/" + polynomial(7, k -> x.quotient(i, c, n, 1, k));
    }
}
