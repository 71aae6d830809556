/** Matrices of polynomials over a small prime field, and their Popov normal form. */
public final class PopovRows {
    public static final int NONE = -1, BAD = -2, NO = -3, FULL = -4;

    private static final int NO_FORM_ROW = -5;
    private static final int FAULT_BASE = -10;
    private static final int STOP_BASE = -1000;
    private static final int FIRST_PRIME = 7;
    private static final int FIRST_COLUMNS = 2;
    private static final int MOST_ROWS = 5;
    private static final int MOST_COLUMNS = 3;
    private static final int MOST_DEGREE = 6;
    private static final int MOST_STATES = 5;
    private static final int MOST_BYTES = 150;
    private static final int MOST_ORDER = 7;
    // The row (x^7, 0) of a Pade approximant has the greatest degree that a form begins with.
    private static final int TOP_POWER = MOST_ORDER;
    private static final int MOST_FACTOR_POWER = 24;
    private static final int MOST_DET_POWER = 18;
    // Each step lowers the lead of a row, so some 120 steps are the most there can be.
    private static final int STEP_LIMIT = 10000;

    private final Rows now = newState();
    private final Rows before = newState();
    private final History history = new History();
    private final Popov popov = new Popov();
    private final Popov secondPopov = new Popov();
    private final Determinant determinant = new Determinant();
    private final Step step = new Step();
    private final Script script = new Script();
    private int badCalls;
    private int noCalls;
    private int fullCalls;
    private int stopError;
    private int stopIndex = NONE;

    public PopovRows() {
    }

    public int prime(int p) {
        before.copyFrom(now);
        return settle(changePrime(p));
    }

    public int columns(int c) {
        before.copyFrom(now);
        return settle(changeColumns(c));
    }

    public int row() {
        before.copyFrom(now);
        return settle(now.append());
    }

    public int sets(int i, int c, int k, int v) {
        if (!now.hasRow(i) || !now.hasColumn(c) || !isWithin(k, 0, MOST_DEGREE)) {
            return counted(BAD);
        }
        before.copyFrom(now);
        int previous = now.at(i, c, k);
        now.put(i, c, k, v);
        return settle(previous);
    }

    public int drops(int i) {
        before.copyFrom(now);
        return settle(dropRow(i));
    }

    public int steps(int i, int j, int c, int k) {
        before.copyFrom(now);
        return settle(stepRow(i, j, c, k));
    }

    public int monic(int i) {
        before.copyFrom(now);
        return settle(makeMonic(i));
    }

    public int of(int i, int c, int k) {
        if (!now.hasRow(i) || !now.hasColumn(c) || !isWithin(k, 0, MOST_DEGREE)) {
            return counted(BAD);
        }
        return now.at(i, c, k);
    }

    public int about(int i, int what) {
        if (!now.hasRow(i) || !isWithin(what, 0, 2)) {
            return counted(BAD);
        }
        switch (what) {
            case 0:
                return now.degreeOf(i);
            case 1:
                return now.pivotOf(i);
            default:
                return now.leadOf(i);
        }
    }

    public int next(int what) {
        if (!isWithin(what, 0, 3)) {
            return counted(BAD);
        }
        if (!step.find(now)) {
            return NONE;
        }
        switch (what) {
            case 0:
                return step.target;
            case 1:
                return step.source;
            case 2:
                return step.number;
            default:
                return step.power;
        }
    }

    public int rank(int set) {
        if (!now.hasSet(set)) {
            return counted(BAD);
        }
        popov.buildFrom(now, set);
        return popov.list.count;
    }

    public int form(int set, int i, int c, int k) {
        int mostK = c == NONE ? 1 : MOST_DEGREE;
        boolean knownColumn = c == NONE || now.hasColumn(c);
        if (!now.hasSet(set) || i < 0 || !knownColumn || !isWithin(k, 0, mostK)) {
            return counted(BAD);
        }
        popov.buildFrom(now, set);
        if (!popov.list.hasRow(i)) {
            return NO_FORM_ROW;
        }
        if (c != NONE) {
            return popov.list.at(i, c, k);
        }
        return k == 0 ? popov.list.degreeOf(i) : popov.list.pivotOf(i);
    }

    public int least(int set) {
        if (!now.hasSet(set)) {
            return counted(BAD);
        }
        popov.buildFrom(now, set);
        return popov.degreeSum();
    }

    public int same(int set, int other) {
        if (!now.hasSet(set) || !now.hasSet(other)) {
            return counted(BAD);
        }
        popov.buildFrom(now, set);
        secondPopov.buildFrom(now, other);
        return popov.list.hasEntriesOf(secondPopov.list) ? 1 : 0;
    }

    public int rest(int i, int set, int c, int k) {
        if (!isRowBeside(i, set) || !now.hasColumn(c) || !isWithin(k, 0, MOST_DEGREE)) {
            return counted(BAD);
        }
        popov.buildFrom(now, set);
        popov.divide(now, i);
        return popov.left.at(0, c, k);
    }

    public int made(int i, int set) {
        if (!isRowBeside(i, set)) {
            return counted(BAD);
        }
        popov.buildFrom(now, set);
        popov.divide(now, i);
        return popov.isDivided() ? 1 : 0;
    }

    public int factor(int i, int set, int j, int k) {
        if (!isRowBeside(i, set) || !isInSet(j, set) || !isWithin(k, 0, MOST_FACTOR_POWER)) {
            return counted(BAD);
        }
        popov.buildFrom(now, set);
        popov.divide(now, i);
        if (!popov.isDivided() || popov.list.count < Integer.bitCount(set)) {
            return counted(NO);
        }
        return popov.factorAt(j, k);
    }

    public int det(int set, int k) {
        if (!now.hasSet(set) || !isWithin(k, NONE, MOST_DET_POWER)) {
            return counted(BAD);
        }
        if (Integer.bitCount(set) != now.columns) {
            return counted(NO);
        }
        determinant.buildFrom(now, set);
        return k == NONE ? determinant.degree() : determinant.at(k);
    }

    public int quotient(int i, int c, int n, int what, int k) {
        if (!now.hasRow(i) || !now.hasColumn(c) || !isWithin(n, 1, MOST_ORDER)
                || !isWithin(what, 0, 1) || !isWithin(k, 0, MOST_ORDER)) {
            return counted(BAD);
        }
        popov.buildPade(now, i, c, n);
        return popov.list.at(0, what, k);
    }

    public int type(int c) {
        if (!isWithin(c, 0, 127)) {
            return counted(BAD);
        }
        if (!script.append(c)) {
            return counted(FULL);
        }
        return script.length;
    }

    public int clear() {
        int length = script.length;
        script.length = 0;
        return length;
    }

    public int reads() {
        before.copyFrom(now);
        script.begin(now.columns);
        int error = 0;
        int errorIndex = NONE;
        int index = 0;
        // The text is read to its end even behind an error, because a fault comes first.
        while (index < MOST_BYTES && (index == 0 || script.hasMore())) {
            if (!script.readCommand()) {
                now.copyFrom(before);
                return FAULT_BASE - script.place;
            }
            int answer = error == 0 ? carryOut() : 0;
            if (isError(answer)) {
                error = answer;
                errorIndex = index;
            }
            index++;
        }
        if (error != 0) {
            now.copyFrom(before);
            stopError = -error;
            stopIndex = errorIndex;
            return STOP_BASE - errorIndex;
        }
        history.keep(before);
        return index;
    }

    public int why(int what) {
        if (!isWithin(what, 0, 1)) {
            return counted(BAD);
        }
        return what == 0 ? stopError : stopIndex;
    }

    public int back() {
        if (!history.restore(now)) {
            return counted(NO);
        }
        return history.count;
    }

    public int told(int what) {
        if (!isWithin(what, 0, 7)) {
            return counted(BAD);
        }
        return total(what);
    }

    public long digest() {
        long h = 2441;
        for (int what = 0; what <= 7; what++) {
            h = mixed(h, total(what));
        }
        h = mixed(h, stopError);
        h = mixed(h, stopIndex);
        for (int i = 0; i < now.count; i++) {
            h = mixedRow(h, i);
        }
        popov.buildFrom(now, allRows());
        h = mixed(h, popov.list.count);
        h = mixed(h, popov.degreeSum());
        boolean found = step.find(now);
        h = mixed(h, found ? step.target : NONE);
        return mixed(h, found ? step.source : NONE);
    }

    private static Rows newState() {
        return new Rows(MOST_ROWS, MOST_COLUMNS, MOST_DEGREE + 1);
    }

    private static boolean isWithin(int v, int low, int high) {
        return v >= low && v <= high;
    }

    private static boolean isPrime(int p) {
        return p == 2 || p == 3 || p == 5 || p == 7;
    }

    private static boolean isError(int answer) {
        return answer == BAD || answer == NO || answer == FULL;
    }

    private static boolean isInSet(int i, int set) {
        return isWithin(i, 0, MOST_ROWS - 1) && ((set >> i) & 1) == 1;
    }

    private static int modulo(int v, int p) {
        return p == 0 ? 0 : Math.floorMod(v, p);
    }

    private static int inverse(int v, int p) {
        for (int w = 1; w < p; w++) {
            if (modulo(v * w, p) == 1) {
                return w;
            }
        }
        return 1;
    }

    private static int powerAt(int place) {
        return place == NONE ? NONE : place / MOST_COLUMNS;
    }

    private static int columnAt(int place) {
        return place == NONE ? NONE : place % MOST_COLUMNS;
    }

    private static long mixed(long h, int v) {
        return 31 * h + v;
    }

    private long mixedRow(long h, int i) {
        h = mixed(h, now.degreeOf(i));
        h = mixed(h, now.pivotOf(i));
        h = mixed(h, now.leadOf(i));
        for (int c = 0; c < now.columns; c++) {
            for (int k = 0; k <= MOST_DEGREE; k++) {
                h = mixed(h, now.at(i, c, k));
            }
        }
        return h;
    }

    private int total(int what) {
        switch (what) {
            case 0:
                return badCalls;
            case 1:
                return noCalls;
            case 2:
                return fullCalls;
            case 3:
                return script.length;
            case 4:
                return now.p;
            case 5:
                return now.columns;
            case 6:
                return now.count;
            default:
                return history.count;
        }
    }

    private int counted(int error) {
        if (error == BAD) {
            badCalls++;
        } else if (error == NO) {
            noCalls++;
        } else if (error == FULL) {
            fullCalls++;
        }
        return error;
    }

    /** Ends a call that changes the state: counts its error, or keeps the state before it. */
    private int settle(int answer) {
        if (isError(answer)) {
            return counted(answer);
        }
        history.keep(before);
        return answer;
    }

    private boolean isRowBeside(int i, int set) {
        return now.hasRow(i) && now.hasSet(set) && !isInSet(i, set);
    }

    private int allRows() {
        return (1 << now.count) - 1;
    }

    private int changePrime(int p) {
        if (!isPrime(p)) {
            return BAD;
        }
        int previous = now.p;
        now.reset(p, now.columns);
        return previous;
    }

    private int changeColumns(int c) {
        if (!isWithin(c, 1, MOST_COLUMNS)) {
            return BAD;
        }
        int previous = now.columns;
        now.reset(now.p, c);
        return previous;
    }

    private int dropRow(int i) {
        if (!now.hasRow(i)) {
            return BAD;
        }
        now.remove(i);
        return now.count;
    }

    private int stepRow(int i, int j, int c, int k) {
        if (!now.hasRow(i) || !now.hasRow(j) || i == j
                || !isWithin(c, 0, 6) || !isWithin(k, 0, MOST_DEGREE)) {
            return BAD;
        }
        int number = modulo(c, now.p);
        int degree = now.degreeOf(j);
        if (number != 0 && degree != NONE && degree + k > MOST_DEGREE) {
            return FULL;
        }
        now.addTimes(i, now, j, number, k);
        return now.degreeOf(i);
    }

    private int makeMonic(int i) {
        if (!now.hasRow(i)) {
            return BAD;
        }
        int lead = now.leadOf(i);
        if (lead == 0) {
            return NO;
        }
        now.scale(i, inverse(lead, now.p));
        return lead;
    }

    private int addScriptRow() {
        int added = now.append();
        if (added == FULL) {
            return FULL;
        }
        for (int c = 0; c < now.columns; c++) {
            for (int k = 0; k <= MOST_DEGREE; k++) {
                now.put(added, c, k, script.entryAt(c, k));
            }
        }
        return added;
    }

    /** Carries out the command that the script has read last; answers as the call would. */
    private int carryOut() {
        int first = script.digitAt(0);
        switch (script.letter) {
            case 'p':
                return changePrime(first);
            case 'c':
                return changeColumns(first);
            case 'r':
                return addScriptRow();
            case 'x':
                return dropRow(first);
            case 's':
                return stepRow(first, script.digitAt(1), script.digitAt(2), script.digitAt(3));
            default:
                return makeMonic(first);
        }
    }

    /**
     * Rows of polynomials with numbers modulo p. The first 'columns' of the 'width' columns are
     * the matrix; those behind them take part in every operation, but not in degrees and pivots.
     */
    private static final class Rows {
        final int room;
        final int width;
        final int powers;
        final int[] numbers;
        int p = FIRST_PRIME;
        int columns = FIRST_COLUMNS;
        int count;

        Rows(int room, int width, int powers) {
            this.room = room;
            this.width = width;
            this.powers = powers;
            numbers = new int[Math.max(0, room * width * powers)];
        }

        boolean hasRow(int i) {
            return i >= 0 && i < count;
        }

        boolean hasColumn(int c) {
            return c >= 0 && c < columns;
        }

        boolean hasSet(int set) {
            return (set >> count) == 0;
        }

        int at(int i, int c, int k) {
            boolean known = i >= 0 && i < room && c >= 0 && c < width && k >= 0 && k < powers;
            return known ? numbers[(i * width + c) * powers + k] : 0;
        }

        void put(int i, int c, int k, int v) {
            boolean known = i >= 0 && i < room && c >= 0 && c < width && k >= 0 && k < powers;
            if (known) {
                numbers[(i * width + c) * powers + k] = modulo(v, p);
            }
        }

        void reset(int newPrime, int newColumns) {
            p = newPrime;
            columns = newColumns;
            count = 0;
        }

        int append() {
            if (count >= room) {
                return FULL;
            }
            count++;
            scale(count - 1, 0);
            return count - 1;
        }

        void remove(int i) {
            if (hasRow(i)) {
                int size = width * powers;
                System.arraycopy(numbers, (i + 1) * size, numbers, i * size, (count - 1 - i) * size);
                count--;
            }
        }

        void copyFrom(Rows other) {
            p = other.p;
            columns = other.columns;
            count = other.count;
            System.arraycopy(other.numbers, 0, numbers, 0,
                    Math.min(numbers.length, other.numbers.length));
        }

        void swap(int i, int j) {
            for (int c = 0; c < width; c++) {
                for (int k = 0; k < powers; k++) {
                    int number = at(i, c, k);
                    put(i, c, k, at(j, c, k));
                    put(j, c, k, number);
                }
            }
        }

        void scale(int i, int number) {
            for (int c = 0; c < width; c++) {
                for (int k = 0; k < powers; k++) {
                    put(i, c, k, number * at(i, c, k));
                }
            }
        }

        /** Adds number * x^power times row j of the other rows to row i. */
        void addTimes(int i, Rows other, int j, int number, int power) {
            for (int c = 0; c < width; c++) {
                for (int k = 0; k < other.powers; k++) {
                    int added = number * other.at(j, c, k);
                    if (added != 0) {
                        put(i, c, k + power, at(i, c, k + power) + added);
                    }
                }
            }
        }

        /**
         * The place of the lead of a row (NONE if the row is zero). Places are numbered by power,
         * then by column, so that a row with a smaller place stands before one with a greater.
         */
        int placeOf(int i) {
            for (int k = TOP_POWER; k >= 0; k--) {
                for (int c = columns - 1; c >= 0; c--) {
                    if (at(i, c, k) != 0) {
                        return k * MOST_COLUMNS + c;
                    }
                }
            }
            return NONE;
        }

        int degreeOf(int i) {
            return powerAt(placeOf(i));
        }

        int pivotOf(int i) {
            return columnAt(placeOf(i));
        }

        int leadOf(int i) {
            int place = placeOf(i);
            return at(i, columnAt(place), powerAt(place));
        }

        boolean hasEntriesOf(Rows other) {
            if (count != other.count) {
                return false;
            }
            for (int i = 0; i < count; i++) {
                for (int c = 0; c < columns; c++) {
                    for (int k = 0; k <= MOST_DEGREE; k++) {
                        if (at(i, c, k) != other.at(i, c, k)) {
                            return false;
                        }
                    }
                }
            }
            return true;
        }
    }

    /** The leads of some rows at one moment. */
    private static final class Shape {
        private final int[] places = new int[MOST_ROWS];
        int count;

        void measure(Rows rows) {
            count = Math.min(rows.count, places.length);
            for (int i = 0; i < count && i < places.length; i++) {
                places[i] = rows.placeOf(i);
            }
        }

        int placeAt(int i) {
            return i >= 0 && i < places.length ? places[i] : NONE;
        }

        boolean canStep(int i, int j) {
            int place = placeAt(i);
            int other = placeAt(j);
            return i != j && place != NONE && other != NONE && other <= place
                    && columnAt(other) == columnAt(place);
        }

        /** The row other than 'but' whose lead divides x^k in column c; NONE if there is none. */
        int rowFor(int c, int k, int but) {
            for (int j = 0; j < count; j++) {
                int place = placeAt(j);
                if (j != but && columnAt(place) == c && powerAt(place) <= k) {
                    return j;
                }
            }
            return NONE;
        }
    }

    /** The next step for some rows. */
    private static final class Step {
        private final Shape shape = new Shape();
        int target;
        int source;
        int number;
        int power;

        boolean find(Rows rows) {
            shape.measure(rows);
            for (int i = 0; i < shape.count; i++) {
                for (int j = 0; j < shape.count; j++) {
                    if (shape.canStep(i, j)) {
                        target = i;
                        source = j;
                        number = modulo(-rows.leadOf(i) * inverse(rows.leadOf(j), rows.p), rows.p);
                        power = powerAt(shape.placeAt(i)) - powerAt(shape.placeAt(j));
                        return true;
                    }
                }
            }
            return false;
        }
    }

    /**
     * The Popov form of a set of rows, and a row divided by it. Behind the entries of each row
     * stand, in a column for each row of the set, the polynomials that make the row of them.
     */
    private static final class Popov {
        final Rows list = new Rows(MOST_ROWS, MOST_COLUMNS + MOST_ROWS, MOST_FACTOR_POWER + 1);
        final Rows left = new Rows(1, MOST_COLUMNS + MOST_ROWS, MOST_FACTOR_POWER + 1);
        private final Step step = new Step();
        private final Shape shape = new Shape();

        void buildFrom(Rows rows, int set) {
            list.reset(rows.p, rows.columns);
            for (int i = 0; i < rows.count; i++) {
                if (isInSet(i, set)) {
                    int added = list.append();
                    list.addTimes(added, rows, i, 1, 0);
                    list.put(added, MOST_COLUMNS + i, 0, 1);
                }
            }
            toForm();
        }

        void buildPade(Rows rows, int i, int c, int n) {
            list.reset(rows.p, 2);
            int power = list.append();
            list.put(power, 0, n, 1);
            int entry = list.append();
            for (int k = 0; k <= MOST_DEGREE; k++) {
                list.put(entry, 0, k, rows.at(i, c, k));
            }
            list.put(entry, 1, 0, 1);
            toForm();
        }

        /** Divides a row by the form that was built last. */
        void divide(Rows rows, int i) {
            left.reset(rows.p, rows.columns);
            left.append();
            left.addTimes(0, rows, i, 1, 0);
            reduce(left, 0, NONE);
        }

        boolean isDivided() {
            return left.degreeOf(0) == NONE;
        }

        /** Division subtracts, so what it leaves behind the entries is minus the cofactors. */
        int factorAt(int j, int k) {
            return modulo(-left.at(0, MOST_COLUMNS + j, k), left.p);
        }

        int degreeSum() {
            int sum = 0;
            for (int i = 0; i < list.count; i++) {
                sum += list.degreeOf(i);
            }
            return sum;
        }

        private void toForm() {
            for (int turn = 0; turn < STEP_LIMIT && step.find(list); turn++) {
                list.addTimes(step.target, list, step.source, step.number, step.power);
            }
            removeZeros();
            for (int i = 0; i < list.count; i++) {
                list.scale(i, inverse(list.leadOf(i), list.p));
            }
            for (int i = 0; i < list.count; i++) {
                reduce(list, i, i);
            }
            sort();
        }

        private void removeZeros() {
            for (int i = list.count - 1; i >= 0; i--) {
                if (list.degreeOf(i) == NONE) {
                    list.remove(i);
                }
            }
        }

        /** Reduces row i of the target by all monic rows of the list but one. */
        private void reduce(Rows target, int i, int but) {
            shape.measure(list);
            // From the greatest place down: a reduction changes only places below its own.
            for (int k = TOP_POWER; k >= 0; k--) {
                for (int c = list.columns - 1; c >= 0; c--) {
                    int number = target.at(i, c, k);
                    int j = number == 0 ? NONE : shape.rowFor(c, k, but);
                    if (j != NONE) {
                        target.addTimes(i, list, j, -number, k - powerAt(shape.placeAt(j)));
                    }
                }
            }
        }

        private void sort() {
            for (int i = 0; i < list.count; i++) {
                for (int j = i + 1; j < list.count; j++) {
                    if (list.placeOf(j) < list.placeOf(i)) {
                        list.swap(i, j);
                    }
                }
            }
        }
    }

    /** The determinant of a square matrix, which is filled up to the most columns with ones. */
    private static final class Determinant {
        // The orders of three columns: the even ones first.
        private static final int[] ORDERS = {0, 1, 2, 1, 2, 0, 2, 0, 1, 0, 2, 1, 1, 0, 2, 2, 1, 0};

        private final int[] numbers = new int[MOST_DET_POWER + 1];
        private final int[] chosen = new int[MOST_COLUMNS];
        private int chosenCount;

        void buildFrom(Rows rows, int set) {
            choose(rows, set);
            for (int k = 0; k < numbers.length; k++) {
                numbers[k] = 0;
            }
            for (int at = 0; at + 2 < ORDERS.length; at += 3) {
                int sign = at < 9 ? 1 : -1;
                addProduct(rows, sign, ORDERS[at], ORDERS[at + 1], ORDERS[at + 2]);
            }
            for (int k = 0; k < numbers.length; k++) {
                numbers[k] = modulo(numbers[k], rows.p);
            }
        }

        int at(int k) {
            return k >= 0 && k < numbers.length ? numbers[k] : 0;
        }

        int degree() {
            for (int k = numbers.length - 1; k >= 0; k--) {
                if (numbers[k] != 0) {
                    return k;
                }
            }
            return NONE;
        }

        private void choose(Rows rows, int set) {
            chosenCount = 0;
            for (int i = 0; i < rows.count; i++) {
                if (isInSet(i, set) && chosenCount < chosen.length) {
                    chosen[chosenCount] = i;
                    chosenCount++;
                }
            }
        }

        private int entryAt(Rows rows, int line, int c, int k) {
            if (line >= 0 && line < chosenCount && line < chosen.length) {
                return c < rows.columns ? rows.at(chosen[line], c, k) : 0;
            }
            return line == c && k == 0 ? 1 : 0;
        }

        private void addProduct(Rows rows, int sign, int first, int second, int third) {
            for (int a = 0; a <= MOST_DEGREE; a++) {
                int x = sign * entryAt(rows, 0, first, a);
                for (int b = 0; b <= MOST_DEGREE && x != 0; b++) {
                    int y = x * entryAt(rows, 1, second, b);
                    for (int d = 0; d <= MOST_DEGREE && y != 0; d++) {
                        addAt(a + b + d, y * entryAt(rows, 2, third, d));
                    }
                }
            }
        }

        private void addAt(int k, int v) {
            if (k >= 0 && k < numbers.length) {
                numbers[k] += v;
            }
        }
    }

    /** The states that are kept, the latest last. */
    private static final class History {
        private final Rows[] kept = new Rows[MOST_STATES];
        int count;

        History() {
            for (int i = 0; i < kept.length; i++) {
                kept[i] = newState();
            }
        }

        void keep(Rows state) {
            if (count >= kept.length) {
                forgetOldest();
            }
            if (count >= 0 && count < kept.length) {
                kept[count].copyFrom(state);
                count++;
            }
        }

        boolean restore(Rows state) {
            if (count <= 0 || count > kept.length) {
                return false;
            }
            count--;
            state.copyFrom(kept[count]);
            return true;
        }

        private void forgetOldest() {
            Rows oldest = kept[0];
            for (int i = 0; i + 1 < kept.length; i++) {
                kept[i] = kept[i + 1];
            }
            kept[kept.length - 1] = oldest;
            count--;
        }
    }

    /** The text, and the command of it that was read last. */
    private static final class Script {
        private final byte[] bytes = new byte[MOST_BYTES];
        private final int[] digits = new int[4];
        private final int[] entries = new int[MOST_COLUMNS * (MOST_DEGREE + 1)];
        int length;
        /** The first byte that is not read yet; behind a failed reading, the fault. */
        int place;
        int letter;
        private int rowColumns;

        boolean append(int c) {
            if (length < 0 || length >= bytes.length) {
                return false;
            }
            bytes[length] = (byte) c;
            length++;
            return true;
        }

        void begin(int columnsAtFirst) {
            place = 0;
            rowColumns = columnsAtFirst;
        }

        boolean hasMore() {
            skipBlanks();
            return place < length;
        }

        int digitAt(int index) {
            return index >= 0 && index < digits.length ? digits[index] : 0;
        }

        int entryAt(int c, int k) {
            int index = entryIndex(c, k);
            return index >= 0 && index < entries.length ? entries[index] : 0;
        }

        boolean readCommand() {
            skipBlanks();
            letter = byteHere();
            switch (letter) {
                case 'p':
                    place++;
                    return isPrime(digitHere()) && readDigits(1) && accept(';');
                case 'c':
                    place++;
                    return readColumns() && accept(';');
                case 'r':
                    place++;
                    return readRow() && accept(';');
                case 'x':
                case 'm':
                    place++;
                    return readDigits(1) && accept(';');
                case 's':
                    place++;
                    return readDigits(4) && accept(';');
                default:
                    return false;
            }
        }

        private int byteHere() {
            return place >= 0 && place < length && place < bytes.length ? bytes[place] : NONE;
        }

        private void skipBlanks() {
            for (int i = 0; i < MOST_BYTES && byteHere() == ' '; i++) {
                place++;
            }
        }

        private boolean accept(int wanted) {
            skipBlanks();
            if (byteHere() != wanted) {
                return false;
            }
            place++;
            return true;
        }

        /** The digit that comes next, which is not read thereby; NONE if there is none. */
        private int digitHere() {
            skipBlanks();
            int found = byteHere();
            return isWithin(found, '0', '9') ? found - '0' : NONE;
        }

        private boolean readDigits(int wanted) {
            for (int i = 0; i < wanted && i < digits.length; i++) {
                int digit = digitHere();
                if (digit == NONE) {
                    return false;
                }
                digits[i] = digit;
                place++;
            }
            return true;
        }

        private boolean readColumns() {
            int digit = digitHere();
            if (!isWithin(digit, 1, MOST_COLUMNS)) {
                return false;
            }
            rowColumns = digit;
            return readDigits(1);
        }

        private boolean readRow() {
            for (int index = 0; index < entries.length; index++) {
                entries[index] = 0;
            }
            int c = 0;
            for (int i = 0; i < MOST_BYTES; i++) {
                if (!readTerm(c)) {
                    return false;
                }
                if (!accept('+')) {
                    c++;
                    if (c >= rowColumns) {
                        return true;
                    }
                    if (!accept(',')) {
                        return false;
                    }
                }
            }
            return false;
        }

        private boolean readTerm(int c) {
            int number = digitHere();
            if (number != NONE) {
                place++;
            }
            int power = 0;
            if (accept('x')) {
                power = readPower();
            } else if (number == NONE) {
                return false;
            }
            addToEntry(c, power, number == NONE ? 1 : number);
            return true;
        }

        /** No blank may stand before the power, so none is skipped here. */
        private int readPower() {
            int found = byteHere();
            if (!isWithin(found, '1', '6')) {
                return 1;
            }
            place++;
            return found - '0';
        }

        private int entryIndex(int c, int k) {
            boolean known = isWithin(c, 0, MOST_COLUMNS - 1) && isWithin(k, 0, MOST_DEGREE);
            return known ? c * (MOST_DEGREE + 1) + k : NONE;
        }

        private void addToEntry(int c, int k, int number) {
            int index = entryIndex(c, k);
            if (index >= 0 && index < entries.length) {
                entries[index] += number;
            }
        }
    }
}
