/** What was learned, as short texts. */
final class Show {
    private Show() {
    }

    /** A TREE: + a leaf that is so, - one that is not, t3(where it holds,where it doesn't). */
    static String tree(InvariantLearner x) {
        return x.count(7) == 0 ? "" : below(x, 0);
    }

    private static String below(InvariantLearner x, int node) {
        if (x.node(node, 0) != 2) {
            return x.node(node, 0) == 1 ? "+" : "-";
        }
        return "t" + x.node(node, 1) + "(" + below(x, x.node(node, 2)) + ","
                + below(x, x.node(node, 3)) + ")";
    }

    /** POINTS in their order, each as its STATE, its TOLD label, its LABEL. */
    static String points(InvariantLearner x) {
        StringBuilder all = new StringBuilder();
        for (int i = 0; i < x.count(5); i++) {
            all.append(i == 0 ? "" : " ").append(x.point(i, 0)).append(':').append(x.point(i, 2))
                    .append(':').append(x.point(i, 1));
        }
        return all.toString();
    }

    /** PAIRS in their order, each as its first POINT and its second. */
    static String pairs(InvariantLearner x) {
        StringBuilder all = new StringBuilder();
        for (int i = 0; i < x.count(6); i++) {
            all.append(i == 0 ? "" : " ").append(x.pair(i, 0)).append('>').append(x.pair(i, 1));
        }
        return all.toString();
    }

    /** What the latest ROUND brought. */
    static String brought(InvariantLearner x) {
        return x.brought(0) + " " + x.brought(1) + " " + x.brought(2);
    }

    /** What node() tells of one NODE. */
    static String node(InvariantLearner x, int node) {
        StringBuilder all = new StringBuilder();
        for (int what = 0; what < 7; what++) {
            all.append(what == 0 ? "" : " ").append(x.node(node, what));
        }
        return all.toString();
    }

    /** ROWS, each as its TESTS with 100 for those that hold; a row of none is a dot. */
    static String rows(InvariantLearner x, boolean isShort) {
        StringBuilder all = new StringBuilder();
        for (int k = 0; k < x.rows(0, isShort); k++) {
            all.append(k == 0 ? "" : " / ");
            int tests = 0;
            while (x.row(k, tests, isShort) >= 0) {
                all.append(tests == 0 ? "" : " ").append(x.row(k, tests, isShort));
                tests++;
            }
            all.append(tests == 0 ? "." : "");
        }
        return all.toString();
    }

    /** The POINTS of the trace. */
    static String trace(InvariantLearner x) {
        StringBuilder all = new StringBuilder();
        for (int i = 0; x.trace(i) >= 0; i++) {
            all.append(i == 0 ? "" : " ").append(x.trace(i));
        }
        return all.toString();
    }
}
