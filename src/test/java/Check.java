import java.lang.reflect.Method;
import java.lang.reflect.Modifier;
import java.util.ArrayList;
import java.util.Comparator;
import java.util.List;
import java.util.function.Supplier;

/** Compares answers with those that are due, and tells each wrong one with the test that found it. */
final class Check {
    static final int BAD = PopovRows.BAD;
    static final int NO = PopovRows.NO;
    static final int FULL = PopovRows.FULL;
    static final int NONE = PopovRows.NONE;
    static final int LEAST = Integer.MIN_VALUE;
    static final int MOST = Integer.MAX_VALUE;

    /** Numbers that wrap around in shifts, products and sums of ints, or when they are cut to a byte. */
    private static final int[] FAR = {LEAST, LEAST + 1, -(1 << 30), -65536, -256, -128, -100, -64, -33, -32, -31, -10,
        -6, -5, -4, -3, -2, -1, 8, 16, 25, 31, 32, 33, 34, 64, 128, 256, 65536, 1 << 28, 1 << 29, 1 << 30, 1431655765,
        858993459, 613566756, MOST - 1, MOST};

    private static int wrong = 0;
    private static String test = "";

    /** A call of an object. */
    interface Call {
        int on(PopovRows x);
    }

    /** A call of an object with an argument that is tried. */
    interface ArgumentCall {
        int on(PopovRows x, int argument);
    }

    private Check() {
    }

    static void begin(String name) {
        test = name;
    }

    static boolean isGood() {
        return wrong == 0;
    }

    static void fail(String what) {
        wrong++;
        System.out.println(test + ": " + what);
    }

    static void due(String what, long got, long want) {
        if (got != want) {
            fail(what + ": got " + got + ", due is " + want);
        }
    }

    static void dueText(String what, String got, String want) {
        if (!got.equals(want)) {
            fail(what + ": got " + got + ", due is " + want);
        }
    }

    /** Every one of the answers is the one that is due. */
    static void dueAll(String what, long want, long... answers) {
        for (int i = 0; i < answers.length; i++) {
            due(what + " [" + i + "]", answers[i], want);
        }
    }

    /** The call returns the error, which is counted once, and all else stays as it was. */
    static void dueRefused(String what, Supplier<PopovRows> maker, int error, Call call) {
        PopovRows x = maker.get();
        PopovRows untouched = maker.get();
        due(what, call.on(x), error);
        int[] kinds = {BAD, NO, FULL};
        for (int kind = 0; kind < kinds.length; kind++) {
            int more = kinds[kind] == error ? 1 : 0;
            due(what + ": told(" + kind + ")", x.told(kind), untouched.told(kind) + more);
        }
        dueText(what + ": all else", View.all(x), View.all(untouched));
    }

    /** The call has this answer, and everything stays as it was. */
    static void dueAnswered(String what, Supplier<PopovRows> maker, int want, Call call) {
        PopovRows x = maker.get();
        due(what, call.on(x), want);
        dueUntouched(what, x, maker.get());
    }

    /** The call returns no error, and everything stays as it was. */
    static void dueAllowed(String what, Supplier<PopovRows> maker, Call call) {
        PopovRows x = maker.get();
        dueNoError(what, call.on(x));
        dueUntouched(what, x, maker.get());
    }

    private static void dueUntouched(String what, PopovRows x, PopovRows untouched) {
        dueText(what + ": totals", View.totals(x), View.totals(untouched));
        dueText(what + ": all else", View.all(x), View.all(untouched));
    }

    private static void dueNoError(String what, int answer) {
        if (answer == BAD || answer == NO || answer == FULL) {
            fail(what + ": got the error " + answer);
        }
    }

    /** The call returns no error and keeps the state before it, so that back() brings it again. */
    static void dueKept(String what, Supplier<PopovRows> maker, Call call) {
        PopovRows x = maker.get();
        String before = View.state(x);
        String totals = View.errors(x);
        int kept = x.told(7);
        dueNoError(what, call.on(x));
        due(what + ": kept", x.told(7), Math.min(5, kept + 1));
        dueText(what + ": errors", View.errors(x), totals);
        due(what + ": back", x.back(), Math.min(5, kept + 1) - 1);
        dueText(what + ": state after back", View.state(x), before);
    }

    /** The argument of a call that changes nothing is allowed from low to high, and BAD beside that. */
    static void dueRange(String what, Supplier<PopovRows> maker, int low, int high, ArgumentCall call) {
        for (int argument = low; argument <= high; argument++) {
            int allowed = argument;
            dueAllowed(what + " " + allowed, maker, x -> call.on(x, allowed));
        }
        dueBadBeside(what, maker, low, high, call);
    }

    /** As dueRange, for a call that keeps the state before it. */
    static void dueKeptRange(String what, Supplier<PopovRows> maker, int low, int high, ArgumentCall call) {
        for (int argument = low; argument <= high; argument++) {
            int allowed = argument;
            dueKept(what + " " + allowed, maker, x -> call.on(x, allowed));
        }
        dueBadBeside(what, maker, low, high, call);
    }

    static void dueBadBeside(String what, Supplier<PopovRows> maker, int low, int high, ArgumentCall call) {
        dueBad(what, maker, low - 1, call);
        dueBad(what, maker, high + 1, call);
        for (int far : FAR) {
            if (far < low - 1 || far > high + 1) {
                dueBad(what, maker, far, call);
            }
        }
    }

    private static void dueBad(String what, Supplier<PopovRows> maker, int argument, ArgumentCall call) {
        dueRefused(what + " " + argument, maker, BAD, x -> call.on(x, argument));
    }

    /** Runs the tests of a class: its static methods whose names begin with "promise". */
    static void runAll(Class<?> tests) {
        List<Method> found = new ArrayList<>();
        for (Method method : tests.getDeclaredMethods()) {
            if (Modifier.isStatic(method.getModifiers()) && method.getName().startsWith("promise")) {
                found.add(method);
            }
        }
        found.sort(Comparator.comparing(Method::getName));
        for (Method method : found) {
            begin(method.getName());
            try {
                method.invoke(null);
            } catch (ReflectiveOperationException e) {
                fail("did not end: " + e.getCause());
            }
        }
        if (found.isEmpty()) {
            fail("no tests in " + tests.getName());
        }
        finish(tests.getName() + " (" + found.size() + " tests)");
    }

    static void finish(String name) {
        System.out.println(name + (wrong == 0 ? ": all as due" : ": " + wrong + " wrong"));
        if (wrong != 0) {
            System.exit(1);
        }
    }
}
