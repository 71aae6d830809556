import java.util.function.Supplier;

/** Objects with which a test begins. */
final class Given {
    static final int[] PRIMES = {2, 3, 5, 7};

    private Given() {
    }

    /** Puts another text in the place of the one that stands. */
    static void types(PopovRows x, String text) {
        x.clear();
        for (int i = 0; i < text.length(); i++) {
            x.type(text.charAt(i));
        }
    }

    static int reads(PopovRows x, String text) {
        types(x, text);
        return x.reads();
    }

    /** A new object that has read the text, which keeps one state. */
    static PopovRows after(String text) {
        PopovRows x = new PopovRows();
        if (reads(x, text) < 0) {
            Check.fail("the text was not read: " + text);
        }
        x.clear();
        return x;
    }

    /**
     * Makes objects that have read the text, and in which there is something of all else: three
     * kept states, a stop at a command, a counted BAD and NO, and a text that has not been read.
     */
    static Supplier<PopovRows> busy(String text) {
        return () -> {
            PopovRows x = new PopovRows();
            x.back();
            x.told(8);
            reads(x, "r0,0;m0;");
            x.row();
            x.prime(7);
            if (reads(x, text) < 0) {
                Check.fail("the text was not read: " + text);
            }
            types(x, "p3;c1;r2x6;");
            return x;
        };
    }

    /** As busy, with some equal rows of one number, 1, in the column 0. */
    static Supplier<PopovRows> busyRows(int columns, int rows) {
        return busy("c" + columns + ";" + repeated("r1" + repeated(",0", columns - 1) + ";", rows));
    }

    static String repeated(String part, int times) {
        StringBuilder text = new StringBuilder();
        for (int i = 0; i < times; i++) {
            text.append(part);
        }
        return text.toString();
    }
}
