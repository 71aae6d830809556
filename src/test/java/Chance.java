/** Numbers that look like chance, but are the same in every run. */
final class Chance {
    private static long seed = 1;

    private Chance() {
    }

    static void begin(long with) {
        seed = with;
    }

    static int below(int end) {
        seed = seed * 6364136223846793005L + 1442695040888963407L;
        return (int) ((seed >>> 33) % end);
    }
}
