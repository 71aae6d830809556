import java.util.ArrayList;
import java.util.Arrays;
import java.util.List;

/**
 * Long runs of calls, each compared with a model that answers in another way: forms come from the
 * echelon form of all shifts of the rows, faults from a table of states, and states are copies.
 */
public final class ModelTest {
    private static final int OBJECTS = 2000;
    private static final int CALLS = 500;

    /** The model of an object. */
    private static final class Model {
        static final int SHIFTS = 22;
        static final int TOP = 6 + SHIFTS;

        int p = 7;
        int columns = 2;
        List<int[][]> rows = new ArrayList<>();
        final List<Object[]> kept = new ArrayList<>();
        final StringBuilder text = new StringBuilder();
        final int[] errors = new int[3];
        int whyError = 0;
        int whyIndex = -1;

        int[][] copy(int[][] row) {
            int[][] made = new int[row.length][];
            for (int c = 0; c < row.length; c++) {
                made[c] = row[c].clone();
            }
            return made;
        }

        Object[] state() {
            List<int[][]> made = new ArrayList<>();
            for (int[][] row : rows) {
                made.add(copy(row));
            }
            return new Object[] {p, columns, made};
        }

        @SuppressWarnings("unchecked")
        void become(Object[] state) {
            p = (Integer) state[0];
            columns = (Integer) state[1];
            rows = (List<int[][]>) state[2];
        }

        void keep(Object[] state) {
            kept.add(state);
            while (kept.size() > 5) {
                kept.remove(0);
            }
        }

        int counted(int answer) {
            if (answer <= -2 && answer >= -4) {
                errors[-2 - answer]++;
            }
            return answer;
        }

        /** A changing call from outside: it is counted, or the state is kept. */
        int call(int[] command) {
            Object[] old = state();
            int answer = change(command);
            if (answer <= -2) {
                return counted(answer);
            }
            keep(old);
            return answer;
        }

        boolean isRow(int i) {
            return 0 <= i && i < rows.size();
        }

        boolean isPlace(int i, int c, int k) {
            return isRow(i) && 0 <= c && c < columns && 0 <= k && k <= 6;
        }

        boolean isSet(int set) {
            return 0 <= set && set < 1 << rows.size();
        }

        boolean isBeside(int i, int set) {
            return isRow(i) && isSet(set) && (set & 1 << i) == 0;
        }

        int change(int[] a) {
            switch (a[0]) {
                case 'p': {
                    if (a[1] != 2 && a[1] != 3 && a[1] != 5 && a[1] != 7) {
                        return -2;
                    }
                    int old = p;
                    p = a[1];
                    rows.clear();
                    return old;
                }
                case 'c': {
                    if (a[1] < 1 || a[1] > 3) {
                        return -2;
                    }
                    int old = columns;
                    columns = a[1];
                    rows.clear();
                    return old;
                }
                case 'r':
                    if (rows.size() == 5) {
                        return -4;
                    }
                    rows.add(new int[columns][7]);
                    for (int at = 1; at < a.length; at += 3) {
                        int[] entry = rows.get(rows.size() - 1)[a[at]];
                        entry[a[at + 1]] = (entry[a[at + 1]] + a[at + 2]) % p;
                    }
                    return rows.size() - 1;
                case 'v': {
                    if (!isPlace(a[1], a[2], a[3])) {
                        return -2;
                    }
                    int old = rows.get(a[1])[a[2]][a[3]];
                    rows.get(a[1])[a[2]][a[3]] = (int) (((long) a[4] % p + p) % p);
                    return old;
                }
                case 'x':
                    if (!isRow(a[1])) {
                        return -2;
                    }
                    rows.remove(a[1]);
                    return rows.size();
                case 's':
                    return step(a[1], a[2], a[3], a[4]);
                default: {
                    if (!isRow(a[1])) {
                        return -2;
                    }
                    int lead = about(a[1], 2);
                    if (lead == 0) {
                        return -3;
                    }
                    for (int[] entry : rows.get(a[1])) {
                        for (int k = 0; k <= 6; k++) {
                            entry[k] = entry[k] * inverse(lead) % p;
                        }
                    }
                    return lead;
                }
            }
        }

        int inverse(int v) {
            int made = 1;
            for (int i = 0; i < p - 2; i++) {
                made = made * v % p;
            }
            return made;
        }

        int step(int i, int j, int c, int k) {
            if (!isRow(i) || !isRow(j) || i == j || c < 0 || c > 6 || k < 0 || k > 6) {
                return -2;
            }
            int[][] sum = new int[columns][13];
            int degree = -1;
            for (int column = 0; column < columns; column++) {
                for (int power = 0; power <= 6; power++) {
                    sum[column][power] += rows.get(i)[column][power];
                    sum[column][power + k] += c * rows.get(j)[column][power];
                }
                for (int power = 0; power <= 12; power++) {
                    sum[column][power] %= p;
                    if (sum[column][power] != 0) {
                        degree = Math.max(degree, power);
                    }
                }
            }
            if (degree > 6) {
                return -4;
            }
            for (int column = 0; column < columns; column++) {
                rows.get(i)[column] = Arrays.copyOf(sum[column], 7);
            }
            return degree;
        }

        static int degree(int[][] row) {
            int degree = -1;
            for (int[] entry : row) {
                for (int k = 0; k < entry.length; k++) {
                    if (entry[k] != 0) {
                        degree = Math.max(degree, k);
                    }
                }
            }
            return degree;
        }

        static int pivot(int[][] row) {
            int degree = degree(row);
            int pivot = -1;
            for (int c = 0; c < row.length && degree >= 0; c++) {
                if (row[c][degree] != 0) {
                    pivot = c;
                }
            }
            return pivot;
        }

        int about(int i, int what) {
            if (!isRow(i) || what < 0 || what > 2) {
                return -2;
            }
            int degree = degree(rows.get(i));
            if (what == 0) {
                return degree;
            }
            int pivot = pivot(rows.get(i));
            return what == 1 ? pivot : pivot == -1 ? 0 : rows.get(i)[pivot][degree];
        }

        int next(int what) {
            if (what < 0 || what > 3) {
                return -2;
            }
            for (int i = 0; i < rows.size(); i++) {
                for (int j = 0; j < rows.size(); j++) {
                    int k = about(i, 0) - about(j, 0);
                    if (i != j && about(j, 1) != -1 && about(i, 1) == about(j, 1) && k >= 0) {
                        int number = 1;
                        while ((about(i, 2) + number * about(j, 2)) % p != 0) {
                            number++;
                        }
                        return new int[] {i, j, number, k}[what];
                    }
                }
            }
            return -1;
        }

        /** A row as a vector, the greatest place first: by power, then by column. */
        int[] vector(int[][] row, int shift, int width) {
            int[] made = new int[(TOP + 1) * width];
            for (int c = 0; c < row.length; c++) {
                for (int k = 0; k < row[c].length; k++) {
                    if (row[c][k] != 0) {
                        made[(TOP - k - shift) * width + width - 1 - c] = row[c][k];
                    }
                }
            }
            return made;
        }

        void subtract(int[] vector, int[] other, int times) {
            for (int at = 0; at < vector.length; at++) {
                vector[at] = (vector[at] + (p - times) * other[at]) % p;
            }
        }

        /** The reduced echelon form of the shifts, by place of the lead; null where none leads. */
        int[][] echelon(List<int[][]> of, int width) {
            int[][] lines = new int[(TOP + 1) * width][];
            for (int[][] row : of) {
                for (int shift = 0; shift <= SHIFTS - Math.max(0, degree(row) - 6); shift++) {
                    int[] line = vector(row, shift, width);
                    for (int at = 0; at < line.length; at++) {
                        if (line[at] != 0 && lines[at] != null) {
                            subtract(line, lines[at], line[at]);
                        }
                    }
                    insert(lines, line);
                }
            }
            return lines;
        }

        private void insert(int[][] lines, int[] line) {
            for (int at = 0; at < line.length; at++) {
                if (line[at] != 0) {
                    int factor = inverse(line[at]);
                    for (int i = 0; i < line.length; i++) {
                        line[i] = line[i] * factor % p;
                    }
                    for (int i = 0; i < at; i++) {
                        if (lines[i] != null) {
                            subtract(lines[i], line, lines[i][at]);
                        }
                    }
                    lines[at] = line;
                    return;
                }
            }
        }

        List<int[][]> chosen(int set) {
            List<int[][]> made = new ArrayList<>();
            for (int i = 0; i < rows.size(); i++) {
                if ((set & 1 << i) != 0) {
                    made.add(rows.get(i));
                }
            }
            return made;
        }

        int[][] unpack(int[] vector, int width) {
            int[][] row = new int[width][TOP + 1];
            for (int at = 0; at < vector.length; at++) {
                row[width - 1 - at % width][TOP - at / width] = vector[at];
            }
            return row;
        }

        List<int[][]> form(List<int[][]> of, int width) {
            int[][] lines = echelon(of, width);
            List<int[][]> made = new ArrayList<>();
            boolean[] seen = new boolean[width];
            for (int at = lines.length - 1; at >= 0; at--) {
                if (lines[at] != null && !seen[at % width]) {
                    seen[at % width] = true;
                    made.add(unpack(lines[at], width));
                }
            }
            return made;
        }

        int sum(List<int[][]> of) {
            int sum = 0;
            for (int[][] row : of) {
                sum += degree(row);
            }
            return sum;
        }

        int[][] remainder(int i, int set) {
            int[][] lines = echelon(chosen(set), columns);
            int[] vector = vector(rows.get(i), 0, columns);
            for (int at = 0; at < vector.length; at++) {
                if (vector[at] != 0 && lines[at] != null) {
                    subtract(vector, lines[at], vector[at]);
                }
            }
            return unpack(vector, columns);
        }

        int[] times(int[] a, int[] b) {
            int[] made = new int[a.length + b.length - 1];
            for (int i = 0; i < a.length; i++) {
                for (int j = 0; j < b.length; j++) {
                    made[i + j] = (made[i + j] + a[i] * b[j]) % p;
                }
            }
            return made;
        }

        /** The determinant by its first row; bit c of used tells that column c is taken. */
        int[] determinant(List<int[][]> of, int line, int used) {
            int[] sum = new int[25];
            if (line == of.size()) {
                sum[0] = 1;
                return sum;
            }
            int sign = 1;
            for (int c = 0; c < columns; c++) {
                if ((used & 1 << c) == 0) {
                    int[] product = times(of.get(line)[c], determinant(of, line + 1, used | 1 << c));
                    for (int k = 0; k < sum.length; k++) {
                        sum[k] = (sum[k] + (sign == 1 ? 1 : p - 1) * product[k]) % p;
                    }
                    sign = -sign;
                }
            }
            return sum;
        }

        int det(int set, int k) {
            if (!isSet(set) || k < -1 || k > 18) {
                return -2;
            }
            if (chosen(set).size() != columns) {
                return -3;
            }
            int[] made = determinant(chosen(set), 0, 0);
            return k >= 0 ? made[k] : degree(new int[][] {made});
        }

        int formAt(int set, int i, int c, int k) {
            if (!isSet(set) || i < 0 || c < -1 || c >= columns || k < 0 || k > (c == -1 ? 1 : 6)) {
                return -2;
            }
            List<int[][]> made = form(chosen(set), columns);
            if (i >= made.size()) {
                return -5;
            }
            int[][] row = made.get(i);
            return c >= 0 ? row[c][k] : k == 0 ? degree(row) : pivot(row);
        }

        int same(int set, int other) {
            if (!isSet(set) || !isSet(other)) {
                return -2;
            }
            List<int[][]> one = form(chosen(set), columns);
            List<int[][]> two = form(chosen(other), columns);
            return Arrays.deepEquals(one.toArray(), two.toArray()) ? 1 : 0;
        }

        int quotient(int i, int c, int n, int what, int k) {
            if (!isPlace(i, c, 0) || n < 1 || n > 7 || what < 0 || what > 1 || k < 0 || k > 7) {
                return -2;
            }
            int[][] power = new int[2][8];
            power[0][n] = 1;
            int[][] entry = {rows.get(i)[c], {1}};
            return form(List.of(power, entry), 2).get(0)[what][k];
        }

        int type(int c) {
            if (c < 0 || c > 127) {
                return -2;
            }
            if (text.length() == 150) {
                return -4;
            }
            text.append((char) c);
            return text.length();
        }

        int reads() {
            Parser parser = new Parser(text.toString(), columns);
            int fault = parser.fault();
            if (fault >= 0) {
                return -10 - fault;
            }
            Object[] old = state();
            int index = 0;
            for (int[] command : parser.commands) {
                int answer = change(command);
                if (answer <= -2) {
                    become(old);
                    whyError = -answer;
                    whyIndex = index;
                    return -1000 - index;
                }
                index++;
            }
            keep(old);
            return index;
        }

        int back() {
            if (kept.isEmpty()) {
                return -3;
            }
            become(kept.remove(kept.size() - 1));
            return kept.size();
        }

        int told(int what) {
            if (what < 0 || what > 7) {
                return -2;
            }
            return new int[] {errors[0], errors[1], errors[2], text.length(), p, columns, rows.size(), kept.size()}[what];
        }

        long digest() {
            List<Integer> list = new ArrayList<>();
            for (int what = 0; what <= 7; what++) {
                list.add(told(what));
            }
            list.add(whyError);
            list.add(whyIndex);
            for (int i = 0; i < rows.size(); i++) {
                for (int what = 0; what <= 2; what++) {
                    list.add(about(i, what));
                }
                for (int[] entry : rows.get(i)) {
                    for (int number : entry) {
                        list.add(number);
                    }
                }
            }
            List<int[][]> made = form(rows, columns);
            list.add(made.size());
            list.add(sum(made));
            list.add(next(0));
            list.add(next(1));
            long h = 2441;
            for (int v : list) {
                h = 31 * h + v;
            }
            return h;
        }
    }

    /** Reads a text byte by byte; each byte leads from one state to the next. */
    private static final class Parser {
        final String text;
        final List<int[]> commands = new ArrayList<>();
        private final List<Integer> command = new ArrayList<>();
        private int columns;
        private int column;
        private int number;
        private int digitsLeft;
        private String state = "start";

        Parser(String text, int columns) {
            this.text = text;
            this.columns = columns;
        }

        /** The fault, or -1. */
        int fault() {
            for (int at = 0; at < text.length(); at++) {
                String after = after(text.charAt(at));
                if (after == null) {
                    return at;
                }
                state = after;
            }
            return state.equals("start") && !commands.isEmpty() ? -1 : text.length();
        }

        private void term(int power) {
            command.add(column);
            command.add(power);
            command.add(number);
        }

        private String afterTerm(char c) {
            if (c == '+') {
                return "term";
            }
            if (c == ',' && column + 1 < columns) {
                column++;
                return "term";
            }
            return c == ';' && column + 1 == columns ? end() : null;
        }

        private String end() {
            int[] made = new int[command.size()];
            for (int i = 0; i < made.length; i++) {
                made[i] = command.get(i);
            }
            commands.add(made);
            command.clear();
            return "start";
        }

        private String begin(char c) {
            if ("pcrxsm".indexOf(c) < 0) {
                return null;
            }
            command.add((int) c);
            column = 0;
            digitsLeft = c == 's' ? 4 : 1;
            return c == 'r' ? "term" : "digits";
        }

        private String digit(char c) {
            char letter = (char) (int) command.get(0);
            String allowed = letter == 'p' ? "2357" : letter == 'c' ? "123" : "0123456789";
            if (allowed.indexOf(c) < 0) {
                return null;
            }
            command.add(c - '0');
            if (letter == 'c') {
                columns = c - '0';
            }
            digitsLeft--;
            return digitsLeft == 0 ? "end" : "digits";
        }

        private String after(char c) {
            if (c == ' ') {
                if (state.equals("power")) {
                    term(1);
                    return "behind";
                }
                return state;
            }
            switch (state) {
                case "start":
                    return begin(c);
                case "digits":
                    return digit(c);
                case "end":
                    return c == ';' ? end() : null;
                case "term":
                    number = c == 'x' ? 1 : c - '0';
                    return c == 'x' ? "power" : c >= '0' && c <= '9' ? "number" : null;
                case "number":
                    if (c == 'x') {
                        return "power";
                    }
                    term(0);
                    return afterTerm(c);
                case "power":
                    if (c >= '1' && c <= '6') {
                        term(c - '0');
                        return "behind";
                    }
                    term(1);
                    return afterTerm(c);
                default:
                    return afterTerm(c);
            }
        }
    }

    private static int cofactorsChecked = 0;

    private static int chance(int below) {
        return Chance.below(below);
    }

    private static int pick(int... numbers) {
        return numbers[chance(numbers.length)];
    }

    /** Mostly within range, now and then just outside of it, and seldom far outside. */
    private static int around(int low, int high) {
        int kind = chance(40);
        if (kind == 0) {
            return pick(low - 1, high + 1, Integer.MIN_VALUE, Integer.MAX_VALUE, -high - 1);
        }
        return low + chance(high - low + 1);
    }

    private static void due(int object, String call, long got, long want) {
        if (got != want) {
            Check.due("object " + object + ": " + call, got, want);
        }
    }

    private static void appendEntry(StringBuilder text) {
        int terms = 1 + chance(chance(3) + 1);
        for (int i = 0; i < terms; i++) {
            text.append(i == 0 ? "" : "+");
            int kind = chance(3);
            if (kind != 1) {
                text.append((char) ('0' + chance(10)));
            }
            if (kind != 0) {
                text.append('x');
                if (chance(3) != 0) {
                    text.append((char) ('1' + chance(6)));
                }
            }
        }
    }

    private static String randomText(Model model) {
        StringBuilder text = new StringBuilder();
        int columns = model.columns;
        int commands = 1 + chance(6);
        for (int q = 0; q < commands; q++) {
            int rows = Math.max(1, model.rows.size() + (chance(6) == 0 ? 1 : 0));
            switch (chance(12)) {
                case 0:
                    text.append('p').append(pick(2, 3, 5, 7)).append(';');
                    break;
                case 1:
                    columns = 1 + chance(3);
                    text.append('c').append(columns).append(';');
                    break;
                case 2:
                    text.append('x').append(chance(rows)).append(';');
                    break;
                case 3:
                    text.append('m').append(chance(rows)).append(';');
                    break;
                case 4:
                case 5:
                    text.append('s').append(chance(rows)).append(chance(rows)).append(chance(8)).append(chance(5)).append(';');
                    break;
                default:
                    text.append('r');
                    for (int c = 0; c < columns; c++) {
                        text.append(c == 0 ? "" : ",");
                        appendEntry(text);
                    }
                    text.append(';');
                    break;
            }
        }
        spoil(text);
        return text.length() > 150 ? text.substring(0, 150) : text.toString();
    }

    /** Puts blanks into the text, and sometimes bytes that may be wrong. */
    private static void spoil(StringBuilder text) {
        int blanks = chance(2) * chance(8);
        for (int i = 0; i < blanks; i++) {
            text.insert(chance(text.length() + 1), ' ');
        }
        if (chance(3) == 0) {
            String signs = "pcrxsm;,+x0123456789 q-\t";
            int at = chance(text.length());
            char sign = signs.charAt(chance(signs.length()));
            switch (chance(3)) {
                case 0:
                    text.setCharAt(at, sign);
                    break;
                case 1:
                    text.insert(at, sign);
                    break;
                default:
                    text.setLength(at);
                    break;
            }
        }
    }

    private static int typeAndRead(int object, PopovRows x, Model model) {
        due(object, "clear", x.clear(), model.text.length());
        model.text.setLength(0);
        String text = randomText(model);
        int calls = 2;
        if (text.length() > 60 && chance(2) == 0) {
            text = text.substring(0, 60);
        }
        for (int i = 0; i < text.length(); i++) {
            due(object, "type", x.type(text.charAt(i)), model.type(text.charAt(i)));
            calls++;
        }
        due(object, "reads of '" + text + "'", x.reads(), model.reads());
        return calls;
    }

    private static int oneChange(int object, PopovRows x, Model model) {
        int last = Math.max(0, model.rows.size() - 1);
        int i = around(0, last);
        int j = around(0, last);
        int c = around(0, model.columns - 1);
        int k = around(0, 6);
        switch (chance(30)) {
            case 0: {
                int p = around(1, 8);
                due(object, "prime " + p, x.prime(p), model.call(new int[] {'p', p}));
                return 1;
            }
            case 1: {
                int number = around(1, 3);
                due(object, "columns " + number, x.columns(number), model.call(new int[] {'c', number}));
                return 1;
            }
            case 2:
                due(object, "drops " + i, x.drops(i), model.call(new int[] {'x', i}));
                return 1;
            case 3:
            case 4:
                due(object, "monic " + i, x.monic(i), model.call(new int[] {'m', i}));
                return 1;
            case 5:
            case 6:
                due(object, "back", x.back(), model.counted(model.back()));
                return 1;
            case 7:
            case 8:
            case 9:
                return typeAndRead(object, x, model);
            case 10:
            case 11:
            case 12:
                due(object, "row", x.row(), model.call(new int[] {'r'}));
                return 1;
            case 13:
            case 14:
            case 15:
            case 16:
            case 17: {
                int power = around(0, 2);
                due(object, "steps", x.steps(i, j, k, power), model.call(new int[] {'s', i, j, k, power}));
                return 1;
            }
            case 18:
            case 19: {
                int[] next = {x.next(0), x.next(1), x.next(2), x.next(3)};
                if (next[0] >= 0) {
                    int answer = x.steps(next[0], next[1], next[2], next[3]);
                    due(object, "next step", answer, model.call(new int[] {'s', next[0], next[1], next[2], next[3]}));
                    return 5;
                }
                return 4;
            }
            default: {
                int v = chance(4) == 0 ? pick(Integer.MIN_VALUE, Integer.MAX_VALUE, -1, 0) : chance(200) - 100;
                due(object, "sets", x.sets(i, c, k, v), model.call(new int[] {'v', i, c, k, v}));
                return 1;
            }
        }
    }

    /** The cofactors are checked by what they are for: their sum is the row. */
    private static int checkCofactors(int object, PopovRows x, Model model, int i, int set) {
        int j = around(0, 4);
        int k = around(0, 24);
        boolean inSet = j >= 0 && j <= 4 && model.isSet(set) && (set & 1 << j) != 0;
        if (!model.isBeside(i, set) || !inSet || k < 0 || k > 24) {
            due(object, "factor", x.factor(i, set, j, k), model.counted(-2));
            return 1;
        }
        List<int[][]> chosen = model.chosen(set);
        boolean made = Model.degree(model.remainder(i, set)) == -1;
        if (!made || model.form(chosen, model.columns).size() < chosen.size()) {
            due(object, "factor", x.factor(i, set, j, k), model.counted(-3));
            return 1;
        }
        int[][] sum = new int[model.columns][31];
        int calls = 0;
        for (int of = 0; of < 5; of++) {
            if ((set & 1 << of) != 0) {
                int[] factor = new int[25];
                for (int power = 0; power <= 24; power++) {
                    factor[power] = x.factor(i, set, of, power);
                    calls++;
                }
                for (int c = 0; c < model.columns; c++) {
                    int[] product = model.times(factor, model.rows.get(of)[c]);
                    for (int power = 0; power <= 30; power++) {
                        sum[c][power] = (sum[c][power] + product[power]) % model.p;
                    }
                }
            }
        }
        for (int c = 0; c < model.columns; c++) {
            for (int power = 0; power <= 30; power++) {
                int want = power <= 6 ? model.rows.get(i)[c][power] : 0;
                due(object, "sum of cofactors", sum[c][power], want);
            }
        }
        cofactorsChecked++;
        return calls;
    }

    private static int oneQuestion(int object, PopovRows x, Model model) {
        int last = Math.max(0, model.rows.size() - 1);
        int i = around(0, last);
        int c = around(0, model.columns - 1);
        int k = around(0, 6);
        int set = around(0, (1 << model.rows.size()) - 1);
        int beside = chance(8) == 0 || i < 0 || i > 4 ? set : set & ~(1 << i);
        boolean known = model.isSet(set);
        boolean isBeside = model.isBeside(i, beside) && c >= 0 && c < model.columns && k >= 0 && k <= 6;
        switch (chance(15)) {
            case 0:
                due(object, "of", x.of(i, c, k), model.isPlace(i, c, k) ? model.rows.get(i)[c][k] : model.counted(-2));
                return 1;
            case 1: {
                int what = around(0, 2);
                due(object, "about", x.about(i, what), model.counted(model.about(i, what)));
                return 1;
            }
            case 2: {
                int what = around(0, 3);
                due(object, "next", x.next(what), model.counted(model.next(what)));
                return 1;
            }
            case 3:
                due(object, "rank", x.rank(set),
                        known ? model.form(model.chosen(set), model.columns).size() : model.counted(-2));
                return 1;
            case 4: {
                int column = around(-1, model.columns - 1);
                int power = column == -1 ? around(0, 1) : k;
                int index = around(0, 3);
                due(object, "form", x.form(set, index, column, power), model.counted(model.formAt(set, index, column, power)));
                return 1;
            }
            case 5:
                due(object, "least", x.least(set),
                        known ? model.sum(model.form(model.chosen(set), model.columns)) : model.counted(-2));
                return 1;
            case 6: {
                int other = around(0, (1 << model.rows.size()) - 1);
                due(object, "same", x.same(set, other), model.counted(model.same(set, other)));
                return 1;
            }
            case 7:
                due(object, "rest", x.rest(i, beside, c, k),
                        isBeside ? model.remainder(i, beside)[c][k] : model.counted(-2));
                return 1;
            case 8:
                due(object, "made", x.made(i, beside), !model.isBeside(i, beside) ? model.counted(-2)
                        : Model.degree(model.remainder(i, beside)) == -1 ? 1 : 0);
                return 1;
            case 9:
                return checkCofactors(object, x, model, i, beside);
            case 10: {
                int power = around(-1, 18);
                due(object, "det", x.det(set, power), model.counted(model.det(set, power)));
                return 1;
            }
            case 11: {
                int n = around(1, 7);
                int what = around(0, 1);
                int power = around(0, 7);
                due(object, "quotient", x.quotient(i, c, n, what, power),
                        model.counted(model.quotient(i, c, n, what, power)));
                return 1;
            }
            case 12: {
                int what = around(0, 7);
                due(object, "told", x.told(what), model.counted(model.told(what)));
                return 1;
            }
            case 13: {
                int what = around(0, 1);
                due(object, "why", x.why(what), what == 0 ? model.whyError : what == 1 ? model.whyIndex : model.counted(-2));
                return 1;
            }
            default:
                due(object, "digest", x.digest(), model.digest());
                return 1;
        }
    }

    /** Fills an object with rows of which some are made of others, so that there is much to find. */
    private static void begin(int object, PopovRows x, Model model) {
        int p = pick(2, 3, 5, 7);
        int columns = 1 + chance(3);
        due(object, "prime", x.prime(p), model.call(new int[] {'p', p}));
        due(object, "columns", x.columns(columns), model.call(new int[] {'c', columns}));
        int rows = 1 + chance(4);
        int most = chance(7);
        for (int i = 0; i < rows; i++) {
            due(object, "row", x.row(), model.call(new int[] {'r'}));
            for (int c = 0; c < columns; c++) {
                for (int k = 0; k <= most; k++) {
                    int v = chance(3) == 0 ? 0 : chance(p);
                    due(object, "sets", x.sets(i, c, k, v), model.call(new int[] {'v', i, c, k, v}));
                }
            }
        }
        due(object, "row", x.row(), model.call(new int[] {'r'}));
        for (int turn = 0; turn < 4; turn++) {
            int[] step = {'s', rows, chance(rows), chance(7), chance(7 - most)};
            due(object, "steps", x.steps(step[1], step[2], step[3], step[4]), model.call(step));
        }
    }

    private static void run(int object) {
        Chance.begin(7919L * object + 17);
        PopovRows x = new PopovRows();
        Model model = new Model();
        int calls = 0;
        if (object % 2 == 0) {
            begin(object, x, model);
            calls = 120;
        }
        while (calls < CALLS && Check.isGood()) {
            // On every fourth object the rows of the beginning stay, and only questions are asked.
            boolean changes = object % 4 != 0 && chance(3) == 0;
            calls += changes ? oneChange(object, x, model) : oneQuestion(object, x, model);
        }
        due(object, "digest", x.digest(), model.digest());
    }

    public static void main(String[] args) {
        Check.begin("model");
        for (int object = 1; object <= OBJECTS && Check.isGood(); object++) {
            run(object);
        }
        if (cofactorsChecked < 400) {
            Check.fail("only " + cofactorsChecked + " rows had cofactors");
        }
        Check.finish("ModelTest");
    }
}
