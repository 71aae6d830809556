import java.util.ArrayList;
import java.util.List;

/**
 * The words of the document's description, held against the answers by their own definitions: many
 * matrices, of which some rows are made of others, are asked what the promises say of such rows.
 */
public final class DefinitionsTest {
    private static final int BAD = Check.BAD;
    private static final int NO = Check.NO;
    private static final int NONE = Check.NONE;
    private static final int MATRICES = 20;

    /** What is looked at in a matrix. */
    private interface Look {
        void at(Matrix matrix);
    }

    /** What is looked at in a set of rows of a matrix, which an object holds. */
    private interface SetLook {
        void at(Matrix matrix, PopovRows x, int set);
    }

    private static int[][] anyRow(Matrix matrix, int most) {
        int[][] row = matrix.append();
        for (int[] entry : row) {
            for (int k = 0; k <= most; k++) {
                entry[k] = Chance.below(3) == 0 ? 0 : Chance.below(matrix.p);
            }
        }
        return row;
    }

    /** Adds a number times x^power times one row to another, if its degree stays up to 6. */
    private static void addTimes(Matrix matrix, int[][] row, int[][] other, int number, int power) {
        if (Matrix.degree(other) + power > 6) {
            return;
        }
        int[] factor = new int[power + 1];
        factor[power] = number;
        for (int c = 0; c < row.length; c++) {
            int[] sum = matrix.plus(row[c], matrix.times(factor, other[c]));
            System.arraycopy(sum, 0, row[c], 0, 7);
        }
    }

    private static Matrix anyMatrix(int p, int columns) {
        Matrix matrix = new Matrix(p, columns);
        int own = Chance.below(4);
        int most = Chance.below(5);
        for (int i = 0; i < own; i++) {
            anyRow(matrix, most);
        }
        int made = Chance.below(Math.min(3, 6 - own));
        for (int i = 0; i < made; i++) {
            int[][] row = matrix.append();
            for (int turn = 0; turn < 3 && own > 0; turn++) {
                addTimes(matrix, row, matrix.rows.get(Chance.below(own)), Chance.below(p), Chance.below(4));
            }
        }
        return matrix;
    }

    private static void dueEverywhere(Look look) {
        Chance.begin(4711);
        for (int p : Given.PRIMES) {
            for (int columns = 1; columns <= 3; columns++) {
                for (int i = 0; i < MATRICES; i++) {
                    look.at(anyMatrix(p, columns));
                }
            }
        }
    }

    /** Each set of each matrix, in an object of its own. */
    private static void dueOfEachSet(SetLook look) {
        dueEverywhere(matrix -> {
            for (int set = 0; set < 1 << matrix.rows.size(); set++) {
                look.at(matrix, matrix.object(), set);
            }
        });
    }

    private static void holds(String what, Matrix matrix, boolean good) {
        if (!good) {
            Check.fail(what + " in " + matrix.text());
        }
    }

    // ---- Polynomials and rows

    static void promise05_theRowsAreThoseThatWereSet() {
        dueEverywhere(matrix -> Check.dueText("state", View.state(matrix.object()), matrix.text()));
    }

    static void promise10_degreePivotAndLead() {
        dueEverywhere(matrix -> {
            PopovRows x = matrix.object();
            for (int i = 0; i < matrix.rows.size(); i++) {
                int[][] row = matrix.rows.get(i);
                String what = " of row " + i + " in " + matrix.text();
                Check.due("degree" + what, x.about(i, 0), Matrix.degree(row));
                Check.due("pivot" + what, x.about(i, 1), Matrix.pivot(row));
                Check.due("lead" + what, x.about(i, 2), Matrix.lead(row));
            }
        });
    }

    // ---- Steps

    static void promise11_theFirstPairOfOnePivot() {
        dueEverywhere(matrix -> {
            int[] pair = firstPair(matrix);
            PopovRows x = matrix.object();
            Check.due("i in " + matrix.text(), x.next(0), pair[0]);
            Check.due("j in " + matrix.text(), x.next(1), pair[1]);
        });
    }

    private static int[] firstPair(Matrix matrix) {
        for (int i = 0; i < matrix.rows.size(); i++) {
            for (int j = 0; j < matrix.rows.size(); j++) {
                int[][] row = matrix.rows.get(i);
                int[][] other = matrix.rows.get(j);
                boolean notZero = Matrix.degree(row) != NONE && Matrix.degree(other) != NONE;
                boolean meet = Matrix.pivot(row) == Matrix.pivot(other) && Matrix.degree(other) <= Matrix.degree(row);
                if (i != j && notZero && meet) {
                    return new int[] {i, j};
                }
            }
        }
        return new int[] {NONE, NONE};
    }

    static void promise11_theEntryInThePivotGetsALessDegree() {
        dueEverywhere(matrix -> {
            PopovRows x = matrix.object();
            int i = x.next(0);
            if (i == NONE) {
                return;
            }
            int[][] row = matrix.rows.get(i);
            holds("c", matrix, x.next(2) >= 1 && x.next(2) < matrix.p);
            holds("no error", matrix, x.steps(i, x.next(1), x.next(2), x.next(3)) >= NONE);
            int[] entry = Matrix.of(x).rows.get(i)[Matrix.pivot(row)];
            holds("the degree of the entry", matrix, Matrix.degree(entry) < Matrix.degree(row));
        });
    }

    static void promise11_nextStepsLeadToDifferentPivots() {
        dueEverywhere(matrix -> {
            Matrix now = matrix;
            int all = (1 << matrix.rows.size()) - 1;
            for (int turn = 0; turn < 200 && firstPair(now)[0] != NONE; turn++) {
                PopovRows x = now.object();
                x.steps(x.next(0), x.next(1), x.next(2), x.next(3));
                now = Matrix.of(x);
            }
            Check.due("no step is left in " + now.text(), now.object().next(0), NONE);
            String form = Matrix.ofForm(now.object(), all).text();
            Check.dueText("the form stays that of " + matrix.text(), form, Matrix.ofForm(matrix.object(), all).text());
            int degrees = 0;
            for (int[][] row : now.rows) {
                degrees += Math.max(0, Matrix.degree(row));
            }
            Check.due("least of " + matrix.text(), matrix.object().least(all), degrees);
        });
    }

    // ---- Modules

    static void promise12_theRankIsTheNumberOfRowsOfTheForm() {
        dueOfEachSet((matrix, x, set) ->
            Check.due("set " + set + " of " + matrix.text(), x.rank(set), Matrix.ofForm(x, set).rows.size()));
    }

    static void promise13_theDegreeAndPivotOfEachRowOfTheForm() {
        dueOfEachSet((matrix, x, set) -> {
            Matrix form = Matrix.ofForm(x, set);
            for (int i = 0; i < form.rows.size(); i++) {
                String what = " of row " + i + " of set " + set + " of " + matrix.text();
                Check.due("degree" + what, x.form(set, i, NONE, 0), Matrix.degree(form.rows.get(i)));
                Check.due("pivot" + what, x.form(set, i, NONE, 1), Matrix.pivot(form.rows.get(i)));
            }
        });
    }

    static void promise13_whatTheListMustBe() {
        dueOfEachSet((matrix, x, set) -> {
            List<int[][]> list = Matrix.ofForm(x, set).rows;
            for (int i = 0; i < list.size(); i++) {
                int[][] row = list.get(i);
                holds("zero", matrix, Matrix.degree(row) != NONE);
                holds("lead", matrix, Matrix.lead(row) == 1);
                for (int j = 0; j < list.size(); j++) {
                    int[] entry = list.get(j)[Matrix.pivot(row)];
                    holds("entry in the pivot", matrix, i == j || Matrix.degree(entry) < Matrix.degree(row));
                }
                holds("order", matrix, i == 0 || isBefore(list.get(i - 1), row));
            }
        });
    }

    /** By degree, then by pivot; two equal pivots of one degree stand in no order. */
    private static boolean isBefore(int[][] row, int[][] next) {
        int degree = Matrix.degree(row);
        int nextDegree = Matrix.degree(next);
        return degree < nextDegree || degree == nextDegree && Matrix.pivot(row) < Matrix.pivot(next);
    }

    static void promise13_theListHasJustTheModuleOfTheSet() {
        dueOfEachSet((matrix, x, set) -> {
            Matrix form = Matrix.ofForm(x, set);
            Matrix chosen = matrix.chosen(set);
            for (int[][] row : chosen.rows) {
                holds("a row of the set by the list", matrix, form.makes(row));
            }
            for (int[][] row : form.rows) {
                holds("a row of the list by the set", matrix, chosen.rows.size() > 4 || chosen.makes(row));
            }
        });
    }

    static void promise14_theSumOfTheDegreesOfTheForm() {
        dueOfEachSet((matrix, x, set) -> {
            int sum = 0;
            for (int[][] row : Matrix.ofForm(x, set).rows) {
                sum += Matrix.degree(row);
            }
            Check.due("set " + set + " of " + matrix.text(), x.least(set), sum);
        });
    }

    static void promise15_theSameJustIfTheFormsAre() {
        dueEverywhere(matrix -> {
            List<String> forms = new ArrayList<>();
            int sets = 1 << matrix.rows.size();
            for (int set = 0; set < sets; set++) {
                forms.add(Matrix.ofForm(matrix.object(), set).text());
                PopovRows x = matrix.object();
                for (int other = 0; other <= set; other++) {
                    int want = forms.get(set).equals(forms.get(other)) ? 1 : 0;
                    Check.due(set + " and " + other + " of " + matrix.text(), x.same(set, other), want);
                    Check.due(other + " and " + set + " of " + matrix.text(), x.same(other, set), want);
                }
            }
        });
    }

    static void promise16_theRemainderIsBelowEachRowOfTheForm() {
        dueOfEachSet((matrix, x, set) -> {
            for (int i = 0; i < matrix.rows.size(); i++) {
                if (((set >> i) & 1) == 0) {
                    PopovRows y = matrix.object();
                    int[][] rest = Matrix.ofRest(y, i, set);
                    for (int[][] row : Matrix.ofForm(y, set).rows) {
                        int[] entry = rest[Matrix.pivot(row)];
                        holds("remainder of " + i + " modulo " + set, matrix, Matrix.degree(entry) < Matrix.degree(row));
                    }
                }
            }
        });
    }

    static void promise16_theRowDiffersByARowOfTheModule() {
        dueOfEachSet((matrix, x, set) -> {
            for (int i = 0; i < matrix.rows.size(); i++) {
                if (((set >> i) & 1) == 0) {
                    int[][] rest = Matrix.ofRest(matrix.object(), i, set);
                    int[][] difference = matrix.less(matrix.rows.get(i), rest);
                    holds("row " + i + " less its remainder, by " + set, matrix, matrix.chosen(set).makes(difference));
                }
            }
        });
    }

    static void promise17_generatedJustIfTheRemainderIsZero() {
        dueOfEachSet((matrix, x, set) -> {
            for (int i = 0; i < matrix.rows.size(); i++) {
                boolean beside = ((set >> i) & 1) == 0;
                boolean zero = beside && Matrix.degree(Matrix.ofRest(matrix.object(), i, set)) == NONE;
                int want = !beside ? BAD : zero ? 1 : 0;
                Check.due("row " + i + " by " + set + " of " + matrix.text(), x.made(i, set), want);
            }
        });
    }

    static void promise17_generatedJustIfItAddsNothing() {
        dueOfEachSet((matrix, x, set) -> {
            for (int i = 0; i < matrix.rows.size(); i++) {
                if (((set >> i) & 1) == 0) {
                    int same = x.same(set, set | 1 << i);
                    Check.due("row " + i + " by " + set + " of " + matrix.text(), x.made(i, set), same);
                }
            }
        });
    }

    static void promise18_theSumOfTheCofactorsTimesTheRows() {
        int[] found = new int[1];
        dueOfEachSet((matrix, x, set) -> {
            for (int i = 0; i < matrix.rows.size(); i++) {
                if (((set >> i) & 1) == 0 && set != 0) {
                    found[0] += lookAtCofactors(matrix, i, set);
                }
            }
        });
        Check.due("rows with cofactors are plenty", found[0] > 100 ? 1 : 0, 1);
    }

    private static int lookAtCofactors(Matrix matrix, int i, int set) {
        String what = "row " + i + " by " + set + " of " + matrix.text();
        PopovRows x = matrix.object();
        boolean possible = x.made(i, set) == 1 && x.rank(set) == Integer.bitCount(set);
        int[][] sum = new int[matrix.columns][31];
        for (int j = 0; j < matrix.rows.size(); j++) {
            if (((set >> j) & 1) == 1 && !possible) {
                Check.due("no cofactors of " + what, x.factor(i, set, j, 0), NO);
            } else if (((set >> j) & 1) == 1) {
                int[] cofactor = new int[25];
                for (int k = 0; k <= 24; k++) {
                    cofactor[k] = x.factor(i, set, j, k);
                }
                for (int c = 0; c < matrix.columns; c++) {
                    sum[c] = matrix.plus(sum[c], matrix.times(cofactor, matrix.rows.get(j)[c]));
                }
            }
        }
        if (possible) {
            Check.dueText("sum for " + what, Matrix.text(sum), Matrix.text(matrix.rows.get(i)));
        }
        return possible ? 1 : 0;
    }

    // ---- Determinants and Pade approximants

    static void promise19_expandedByTheFirstColumn() {
        dueOfEachSet((matrix, x, set) -> {
            if (Integer.bitCount(set) != matrix.columns) {
                Check.due("set " + set + " of " + matrix.text(), x.det(set, 0), NO);
                return;
            }
            int[] want = determinant(matrix, matrix.chosen(set).rows, 0);
            String what = "set " + set + " of " + matrix.text();
            Check.dueText(what, View.determinant(x, set), Matrix.degree(want) + ":" + Matrix.text(want));
        });
    }

    /** Of the columns from c on, by as many rows. */
    private static int[] determinant(Matrix matrix, List<int[][]> rows, int c) {
        int[] sum = {rows.isEmpty() ? 1 : 0};
        for (int i = 0; i < rows.size(); i++) {
            List<int[][]> others = new ArrayList<>(rows);
            others.remove(i);
            int[] sign = {i % 2 == 0 ? 1 : matrix.p - 1};
            int[] product = matrix.times(rows.get(i)[c], determinant(matrix, others, c + 1));
            sum = matrix.plus(sum, matrix.times(sign, product));
        }
        return sum;
    }

    static void promise20_theFirstRowOfThatForm() {
        dueEverywhere(matrix -> {
            for (int i = 0; i < matrix.rows.size(); i++) {
                for (int n = 1; n <= 6; n++) {
                    int c = Chance.below(matrix.columns);
                    Matrix two = new Matrix(matrix.p, 2);
                    two.append()[0][n] = 1;
                    int[][] second = two.append();
                    second[0] = matrix.rows.get(i)[c];
                    second[1][0] = 1;
                    int[][] first = Matrix.ofForm(two.object(), 3).rows.get(0);
                    String want = Matrix.text(first[0]) + "/" + Matrix.text(first[1]);
                    String what = "row " + i + ", column " + c + ", n " + n + " of " + matrix.text();
                    Check.dueText(what, View.pade(matrix.object(), i, c, n), want);
                }
            }
        });
    }

    public static void main(String[] args) {
        Check.runAll(DefinitionsTest.class);
    }
}
