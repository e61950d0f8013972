/** Counts and prints the answers that are not the ones that are due. */
final class Due {
    private static int asked = 0;
    private static int wrong = 0;
    private static String heading = "";

    private Due() {
    }

    /** By what the answers that follow are due; it is printed ahead of each wrong one. */
    static void heading(String words) {
        heading = words.isEmpty() ? "" : words + ": ";
    }

    static void is(String call, long got, long want) {
        asked++;
        if (got != want) {
            wrong++;
            if (wrong <= 50) {
                System.out.println(heading + call + " answered " + got + ", due is " + want);
            }
        }
    }

    /** Several answers at once. */
    static void each(String call, int[] got, int... want) {
        is(call + ": how many", got.length, want.length);
        for (int i = 0; i < Math.min(got.length, want.length); i++) {
            is(call + " [" + i + "]", got[i], want[i]);
        }
    }

    static void same(String call, String got, String want) {
        is(call + ": <" + got + "> is <" + want + ">", got.equals(want) ? 1 : 0, 1);
    }

    static int asked() {
        return asked;
    }

    static int wrong() {
        return wrong;
    }

    /** Ends the test: exit code 1 if an answer was wrong, or if nothing was asked. */
    static void end() {
        System.out.println((asked - wrong) + " answers as due, " + wrong + " not");
        if (wrong != 0 || asked == 0) {
            System.exit(1);
        }
    }
}
