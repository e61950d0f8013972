/** Promises 1 to 29, one method each: ordinary inputs, edges, wrong inputs, worked out by hand. */
public final class PromisesTest {
    private static final int NONE = InvariantLearner.NONE;
    private static final int LEAST_INT = Integer.MIN_VALUE;
    private static final int GREATEST_INT = Integer.MAX_VALUE;

    /**
     * Ten states; from 0 to 3 by ones. Bold learning: BAD 7; START 0; the PAIR from 1 to 2, as
     * x<2 is the first test that parts 0 and 7; then x<5 costs nothing and is proved.
     */
    private static final String LINE = "var x 0 9;start x=0;step if x<3;set x=x+1;bad x=7;"
            + "test x<2;test x<5;test x>7;";

    /** Six states; 0 leads to 2, 4; 3 leads to 5, which is bad, and 1 leads to 3. */
    private static final String TWOS = "var x 0 5;start x=0;step if x<4;set x=x+2;bad x=5;"
            + "test x<3;test x<1;test x=2;test x=3;";

    /** From 0 on by ones to 2, which is bad. */
    private static final String DOWNFALL = "var x 0 2;start x=0;step;set x=x+1;bad x=2;"
            + "test x<1;test x<2;";

    /** Two variables, 3 times 2 states. */
    private static final String PLANE = "var x -1 1;var y 4 5;start x=0 and y=4;start x=1;"
            + "bad y=5 and x<0;step;set x=y-4;set y=x+4;step if x=1;test x=y-4;";

    public static void main(String[] args) {
        promise1();
        promise2();
        promise3();
        promise4();
        promise5();
        promise6();
        promise7();
        promise8();
        promise9();
        promise10();
        promise11();
        promise12();
        promise13();
        promise14();
        promise15();
        promise16();
        promise17();
        promise18();
        promise19();
        promise20();
        promise21();
        promise22();
        promise23();
        promise24();
        promise25();
        promise26();
        promise27();
        promise28();
        promise29();
        Due.end();
    }

    private static InvariantLearner learned(String text) {
        InvariantLearner x = Tape.with(text);
        x.learn(100);
        return x;
    }

    private static int[] counts(InvariantLearner x) {
        int[] all = new int[12];
        for (int i = 0; i < all.length; i++) {
            all[i] = x.count(i);
        }
        return all;
    }

    private static void promise1() {
        InvariantLearner x = new InvariantLearner();
        Due.each("1 count", counts(x), 0, 0, 0, 0, 0, 0, 0, 0, 0, 0, 0, 0);
        Due.is("1 NONE", InvariantLearner.NONE, -1);
        Due.is("1 many(0)", x.many(0), 1);
        Due.is("1 many(1)", x.many(1), 0);
        Due.is("1 many(2)", x.many(2), 0);
        Due.is("1 ended()", x.ended(), 0);
        InvariantLearner y = Tape.with(LINE);
        Due.is("1 objects are apart", x.many(0), 1);
        Due.is("1 objects are apart", y.many(0), 10);
    }

    private static void promise2() {
        InvariantLearner x = new InvariantLearner();
        for (int i = 1; i <= 45; i++) {
            Due.is("2 feed", x.feed(LEAST_INT, -1, 0, 1, GREATEST_INT), 20 * i);
        }
        Due.is("2 feed beyond 900", x.feed(0, 0, 0, 0, 0), NONE);
        Due.is("2 none came", x.count(11), 900);
        Due.is("2 -2 for 901", x.text(901), -2);
        Due.is("2 text", x.text(900), NONE);
        Due.is("2 byte 128 is first", x.fault(1), 0);
        // The highest byte of each number comes first: "step" and four blanks more.
        Due.is("2 feed", x.feed(0x73746570, 0x3b202020, 0x73746570, 0x3b202020, 0x20202020), 20);
        Due.is("2 text", x.text(20), 2);
    }

    private static void promise3() {
        InvariantLearner x = Tape.with(LINE);
        Due.is("3 the tape is empty", x.count(11), 0);
        x.ways(1, 1);
        x.learn(2);
        Due.is("3 n below 0", x.text(-1), -2);
        Due.is("3 n of least", x.text(LEAST_INT), -2);
        Due.is("3 not so many", x.text(1), -2);
        int before = Tape.feed(x, "step; and this is left out");
        Due.is("3 not so many", x.text(before + 1), -2);
        Due.is("3 the tape stays", x.count(11), before);
        Due.each("3 all stays", counts(x), 1, 1, 1, 1, 3, x.count(5), x.count(6), x.count(7), 2, 1,
                1, before);
        Due.is("3 a fault", x.text(before), NONE);
        Due.each("3 all but the tape stays", counts(x), 1, 1, 1, 1, 3, x.count(5), x.count(6),
                x.count(7), 2, 1, 1, 0);
        Due.is("3 many stays", x.many(0), 10);
        Due.is("3 there is a tree", x.count(7) > 0 ? 1 : 0, 1);
        Tape.feed(x, "step; and this is left out");
        Due.is("3 its first n bytes", x.text(5), 1);
        Due.each("3 all anew", counts(x), 0, 0, 0, 1, 0, 0, 0, 0, 0, 0, 0, 0);
        Due.is("3 no end", x.ended(), 0);
        Due.is("3 nothing brought", x.brought(0), 0);
        Due.is("3 n 0", x.text(0), 0);
        Due.is("3 no step then", x.count(3), 0);
        learnAnew();
    }

    /** What was kept of the text ahead must not be answered for the next one. */
    private static void learnAnew() {
        InvariantLearner x = learned(LINE);
        Due.is("3 rows short", x.rows(0, true), 1);
        Due.is("3 together", x.together(1), 2);
        Due.is("3 needed", x.needed(0, 0), 1);
        Due.is("3 next text", Tape.read(x, DOWNFALL), 7);
        Due.is("3 rows short", x.rows(0, true), -2);
        Due.is("3 together", x.together(1), 0);
        Due.is("3 needed", x.needed(0, 0), 2);
        Due.is("3 is no point", x.is(0, 5), -2);
        x.learn(100);
        Due.is("3 ended", x.ended(), 2);
        Due.is("3 next text", Tape.read(x, LINE), 8);
        Due.is("3 learn", x.learn(100), 4);
        Due.is("3 ended", x.ended(), 1);
        Due.is("3 short", x.shortMany(), 5);
    }

    private static void promise4() {
        InvariantLearner x = new InvariantLearner();
        Due.is("4 ahead of any", x.fault(0), 0);
        Due.is("4 ahead of any", x.fault(1), NONE);
        Tape.read(x, "step; set");
        Due.is("4 fault", x.fault(0), 1);
        Due.is("4 place", x.fault(1), 9);
        Due.is("4 another what", x.fault(2), NONE);
        Due.is("4 another what", x.fault(-1), NONE);
        x.text(5);
        Due.is("4 -2 is not the latest", x.fault(0), 1);
        Due.is("4 -2 is not the latest", x.fault(1), 9);
        x.text(0);
        Due.is("4 no fault", x.fault(0), 0);
        Due.is("4 no fault", x.fault(1), NONE);
    }

    private static void promise5() {
        InvariantLearner x = Tape.with(PLANE);
        int[] xs = {-1, -1, 0, 0, 1, 1};
        int[] ys = {4, 5, 4, 5, 4, 5};
        for (int s = 0; s < 6; s++) {
            Due.is("5 value", Tape.value(x, s, 0), xs[s]);
            Due.is("5 value", Tape.value(x, s, 1), ys[s]);
            Due.is("5 no variable", Tape.value(x, s, 2), 2000);
            Due.is("5 no variable", Tape.value(x, s, -1), 2000);
        }
        Due.is("5 no state", Tape.value(x, 6, 0), 1000);
        Due.is("5 no state", Tape.value(x, -1, 0), 1000);
        Due.is("5 neither", Tape.value(x, -1, 2), 1000);
        Due.is("5 neither", Tape.value(x, LEAST_INT, GREATEST_INT), 1000);
        x = new InvariantLearner();
        Due.is("5 without variables", Tape.value(x, 0, 0), 2000);
        Due.is("5 without variables", Tape.value(x, 1, 0), 1000);
    }

    private static void promise6() {
        InvariantLearner x = Tape.with(PLANE);
        Due.is("6 stateOf", x.stateOf(-1, 4, 99), 0);
        Due.is("6 stateOf", x.stateOf(-1, 5, LEAST_INT), 1);
        Due.is("6 stateOf", x.stateOf(1, 5, 0), 5);
        Due.is("6 beyond", x.stateOf(2, 4, 0), NONE);
        Due.is("6 beyond", x.stateOf(-2, 4, 0), NONE);
        Due.is("6 beyond", x.stateOf(0, 3, 0), NONE);
        Due.is("6 beyond", x.stateOf(0, 6, 0), NONE);
        Due.is("6 beyond", x.stateOf(LEAST_INT, 4, 0), NONE);
        Due.is("6 beyond", x.stateOf(0, GREATEST_INT, 0), NONE);
        x = Tape.with("var a -20 -19;var b 0 2;var c 20 20;");
        Due.is("6 three", x.stateOf(-19, 1, 20), 4);
        Due.is("6 three", x.stateOf(-19, 1, 19), NONE);
        x = Tape.with("");
        Due.is("6 without variables", x.stateOf(1, 2, 3), 0);
    }

    private static void promise7() {
        InvariantLearner x = Tape.with(PLANE);
        int[] starts = {0, 0, 1, 0, 1, 1};
        int[] bads = {0, 1, 0, 0, 0, 0};
        // Step 0 puts (x, y) to (y - 4, x + 4); step 1 stays, where x is 1.
        int[] comes = {0, 0, 1, 0, 1, 1};
        int[] dooms = {0, 1, 0, 0, 0, 0};
        int[] steps = {0, 0, 1, 1, 2, 2};
        comes[x.stateOf(0, 5, 0)] = 1;
        for (int s = 0; s < 6; s++) {
            Due.is("7 start " + s, x.is(s, 0), starts[s]);
            Due.is("7 bad " + s, x.is(s, 1), bads[s]);
            Due.is("7 come to " + s, x.is(s, 2), comes[s]);
            Due.is("7 doomed " + s, x.is(s, 3), dooms[s]);
            Due.is("7 held without a tree " + s, x.is(s, 4), 0);
            Due.is("7 no point " + s, x.is(s, 5), -2);
            Due.is("7 steps " + s, x.is(s, 6), steps[s]);
            Due.is("7 another what", x.is(s, 7), NONE);
            Due.is("7 another what", x.is(s, -1), NONE);
        }
        Due.is("7 no state", x.is(6, 0), NONE);
        Due.is("7 no state", x.is(-1, 5), NONE);
        x = learned(LINE);
        Due.is("7 held", x.is(4, 4), 1);
        Due.is("7 not held", x.is(5, 4), 0);
        Due.is("7 point", x.is(7, 5), 0);
        Due.is("7 point", x.is(0, 5), 1);
        Due.is("7 no point", x.is(3, 5), -2);
        x = Tape.with(TWOS);
        Due.is("7 doomed", x.is(1, 3), 1);
        Due.is("7 doomed", x.is(3, 3), 1);
        Due.is("7 doomed", x.is(2, 3), 0);
    }

    private static void promise8() {
        InvariantLearner x = Tape.with(PLANE);
        // All that is set becomes so at once.
        Due.is("8 next", x.next(x.stateOf(1, 4, 0), 0), x.stateOf(0, 5, 0));
        Due.is("8 next", x.next(x.stateOf(0, 5, 0), 0), x.stateOf(1, 4, 0));
        Due.is("8 next", x.next(x.stateOf(1, 5, 0), 0), x.stateOf(1, 5, 0));
        Due.is("8 beyond the range", x.next(x.stateOf(-1, 4, 0), 0), -2);
        Due.is("8 stays", x.next(x.stateOf(1, 4, 0), 1), x.stateOf(1, 4, 0));
        Due.is("8 may not", x.next(x.stateOf(0, 4, 0), 1), -2);
        Due.is("8 no step", x.next(0, 2), NONE);
        Due.is("8 no step", x.next(0, -1), NONE);
        Due.is("8 no state", x.next(6, 0), NONE);
        Due.is("8 no state", x.next(-1, 0), NONE);
        Due.is("8 far", x.next(GREATEST_INT, GREATEST_INT), NONE);
    }

    private static void promise9() {
        InvariantLearner x = Tape.with(PLANE);
        Due.is("9 holds", x.holds(0, x.stateOf(0, 4, 0)), 1);
        Due.is("9 holds", x.holds(0, x.stateOf(1, 5, 0)), 1);
        Due.is("9 holds not", x.holds(0, x.stateOf(0, 5, 0)), 0);
        Due.is("9 no test", x.holds(1, 0), NONE);
        Due.is("9 no test", x.holds(-1, 0), NONE);
        Due.is("9 no state", x.holds(0, 6), NONE);
        Due.is("9 no state", x.holds(0, -1), NONE);
        x = Tape.with("var x -2 2;test 2*x+1>0-3;test 0-x<1+x;test x+x+x=3*x;test 12-3*x-x=4;");
        int[][] want = {{0, 1, 1, 1, 1}, {0, 0, 1, 1, 1}, {1, 1, 1, 1, 1}, {0, 0, 0, 0, 1}};
        for (int t = 0; t < 4; t++) {
            for (int s = 0; s < 5; s++) {
                Due.is("9 test " + t + " in " + s, x.holds(t, s), want[t][s]);
            }
        }
    }

    private static void promise10() {
        InvariantLearner x = Tape.with(PLANE);
        Due.each("10 many", new int[] {x.many(0), x.many(1), x.many(2), x.many(3), x.many(4),
            x.many(5), x.many(6), x.many(-1)}, 6, 3, 1, 4, 1, 0, NONE, NONE);
        x = learned(LINE);
        Due.each("10 many", new int[] {x.many(0), x.many(1), x.many(2), x.many(3), x.many(4),
            x.many(5)}, 10, 1, 1, 4, 1, 5);
    }

    private static void promise11() {
        InvariantLearner x = Tape.with(LINE);
        Due.is("11 ways", x.ways(0, 1), 0);
        Due.is("11 ways", x.ways(1, 0), 1);
        Due.is("11 ways", x.ways(1, 1), 2);
        Due.is("11 no care", x.ways(2, 0), NONE);
        Due.is("11 no care", x.ways(-1, 0), NONE);
        Due.is("11 no order", x.ways(0, 2), NONE);
        Due.is("11 no order", x.ways(0, -1), NONE);
        Due.is("11 refused ones change nothing", x.ways(1, 1), 3);
        // Wary without points: nothing is so, and a start is brought; the last one by order 1.
        x = Tape.with("var x 0 5;start x<3;bad x>3;test x<2;");
        x.ways(1, 1);
        x.learn(1);
        Due.is("11 wary", x.node(0, 0), 0);
        Due.is("11 wary", x.brought(0), 1);
        Due.is("11 the last", x.point(0, 0), 2);
        // Bold: all is so, and a bad one is brought; the last one by order 1.
        x = Tape.with("var x 0 5;start x<3;bad x>3;test x<2;");
        x.ways(0, 1);
        x.learn(1);
        Due.is("11 bold", x.node(0, 0), 1);
        Due.is("11 bold", x.brought(0), 2);
        Due.is("11 the last", x.point(0, 0), 5);
        // Of the last state that has one the first step.
        x = Tape.with("var x 0 5;start x=4;bad x=0;step;set x=x-1;step;set x=x-2;test x>2;");
        x.ways(0, 1);
        x.learn(3);
        Due.is("11 pair", x.brought(0), 3);
        Due.is("11 of the last state", x.point(x.brought(1), 0), 4);
        Due.is("11 the first step that leaves", x.point(x.brought(2), 0), 2);
    }

    private static void promise12() {
        InvariantLearner x = Tape.with(LINE);
        Due.is("12 no such n", x.learn(0), NONE);
        Due.is("12 no such n", x.learn(101), NONE);
        Due.is("12 no such n", x.learn(LEAST_INT), NONE);
        Due.is("12 nothing done", x.count(8), 0);
        Due.is("12 learn", x.learn(1), 1);
        Due.is("12 learn", x.learn(2), 2);
        Due.is("12 no end yet", x.ended(), 0);
        Due.is("12 the one that ends is one", x.learn(100), 1);
        Due.is("12 behind an end none", x.learn(100), 0);
        Due.is("12 no such n, too", x.learn(0), NONE);
        Due.is("12 all", x.count(8), 4);
        Due.is("12 at once", Tape.with(LINE).learn(100), 4);
    }

    private static void promise13() {
        Due.is("13 none", Tape.with(LINE).ended(), 0);
        Due.is("13 proved", learned(LINE).ended(), 1);
        Due.is("13 unsafe", learned(DOWNFALL).ended(), 2);
        Due.is("13 start and bad", learned("start 1=1;bad 1=1;").ended(), 2);
        // 0 is good and 1 is bad, and no test parts them: the tree ahead stays.
        InvariantLearner x = learned("var x 0 1;start x=0;bad x=1;test x<5;");
        Due.is("13 stuck", x.ended(), 3);
        Due.is("13 rounds", x.count(8), 3);
        Due.is("13 the tree stays", x.node(0, 0), 0);
        Due.is("13 the tree stays", x.node(0, 4), 1);
        Due.is("13 points", x.count(5), 2);
        Due.is("13 of unsafe the tree stays", learned(DOWNFALL).count(7), 3);
    }

    private static void promise14() {
        InvariantLearner x = Tape.with(LINE);
        int[][] want = {{2, 0, -2}, {1, 1, -2}, {3, 2, 3}, {0, -2, -2}};
        Due.each("14 ahead", broughtAll(x), 0, -2, -2);
        for (int[] row : want) {
            x.learn(1);
            Due.each("14 brought", broughtAll(x), row);
        }
        x.learn(1);
        Due.each("14 stays", broughtAll(x), 0, -2, -2);
        Due.is("14 another what", x.brought(3), NONE);
        Due.is("14 another what", x.brought(-1), NONE);
        x = Tape.with(LINE);
        x.learn(1);
        x.run(1, 3);
        Due.each("14 a run is no round", broughtAll(x), 2, 0, -2);
    }

    private static int[] broughtAll(InvariantLearner x) {
        return new int[] {x.brought(0), x.brought(1), x.brought(2)};
    }

    private static void promise15() {
        InvariantLearner x = learned(LINE);
        int[][] want = {{7, 2, 2, 0, 0}, {0, 1, 1, 0, 0}, {1, 0, 0, 1, 0}, {2, 0, 0, 0, 1}};
        for (int p = 0; p < 4; p++) {
            for (int what = 0; what < 5; what++) {
                Due.is("15 point(" + p + ", " + what + ")", x.point(p, what), want[p][what]);
            }
        }
        Due.is("15 no point", x.point(4, 0), NONE);
        Due.is("15 no point", x.point(-1, 0), NONE);
        Due.is("15 another what", x.point(0, 5), NONE);
        Due.is("15 another what", x.point(0, -1), NONE);
        // 0 told good, 2 told bad, the pairs from 0 to 1 and from 1 to 2: all are both.
        x = learned(DOWNFALL);
        for (int p = 0; p < 3; p++) {
            Due.is("15 both", x.point(p, 1), 3);
        }
        Due.is("15 told bad", x.point(x.is(2, 5), 2), 2);
        Due.is("15 told good", x.point(x.is(0, 5), 2), 1);
        Due.is("15 not told", x.point(x.is(1, 5), 2), 0);
        x = learned("start 1=1;bad 1=1;");
        Due.is("15 told both", x.point(0, 2), 3);
    }

    private static void promise16() {
        InvariantLearner x = learned(LINE);
        Due.is("16 first", x.pair(0, 0), 2);
        Due.is("16 second", x.pair(0, 1), 3);
        Due.is("16 another what", x.pair(0, 2), NONE);
        Due.is("16 another what", x.pair(0, -1), NONE);
        Due.is("16 no pair", x.pair(1, 0), NONE);
        Due.is("16 no pair", x.pair(-1, 0), NONE);
    }

    private static void promise17() {
        InvariantLearner x = learned(LINE);
        int[][] want = {{2, 1, 1, 2, 4, 0, 10}, {1, -2, -2, -2, 3, 1, 5}, {0, -2, -2, -2, 1, 1, 5}};
        for (int n = 0; n < 3; n++) {
            for (int what = 0; what < 7; what++) {
                Due.is("17 node(" + n + ", " + what + ")", x.node(n, what), want[n][what]);
            }
            Due.is("17 another what", x.node(n, 7), NONE);
            Due.is("17 another what", x.node(n, -1), NONE);
        }
        Due.is("17 no node", x.node(3, 0), NONE);
        Due.is("17 no node", x.node(-1, 0), NONE);
        x = Tape.with(LINE);
        Due.is("17 no tree", x.node(0, 0), NONE);
        x.learn(1);
        x.run(0, 0);
        Due.is("17 points it had", x.node(0, 4), 0);
        labelsFollowLeaves();
    }

    /**
     * 0 is a start, 5 is bad. When 2 (no start) and its pair to 3 come, what the leaf ahead gave
     * to 2 follows to 3: bold, 3 becomes GOOD with 2 and can't be in a leaf that is not so.
     */
    private static void labelsFollowLeaves() {
        InvariantLearner x = Tape.with("var x 0 5;start x=0;bad x=5;step if x=2;set x=3;"
                + "test x<3;test x=3;test x=4;");
        x.learn(3);
        Due.is("17 a pair", x.brought(0), 3);
        Due.is("17 from 2", x.point(x.brought(1), 0), 2);
        Due.is("17 to 3", x.point(x.brought(2), 0), 3);
        Due.is("17 not so yet", x.is(3, 4), 0);
        // x<3: nothing mixed, one pair cut: 1. x=3: (0, 2 | 5) are mixed: 4 and 1.
        Due.is("17 cost", x.cost(0), 1);
        Due.is("17 cost", x.cost(1), 5);
        x.learn(1);
        Due.is("17 root", x.node(0, 1), 0);
        Due.is("17 holding leaf", x.node(1, 0), 1);
        Due.is("17 the other side is parted", x.node(2, 1), 1);
        Due.is("17 3 became good", x.node(3, 0), 1);
        Due.is("17 5 is bad", x.node(4, 0), 0);
        Due.is("17 proved", x.ended(), 1);
    }

    private static void promise18() {
        InvariantLearner x = Tape.with(LINE);
        Due.is("18 no points", x.cost(0), -2);
        Due.is("18 no test", x.cost(3), NONE);
        Due.is("18 no test", x.cost(-1), NONE);
        x.learn(3);
        // Points 7 bad, 0 good, the pair of 1 and 2.
        Due.is("18 x<2 cuts the pair", x.cost(0), 1);
        Due.is("18 x<5", x.cost(1), 0);
        Due.is("18 x>7 holds for none", x.cost(2), -2);
        x = learned(DOWNFALL);
        // All three are good and bad: 4 times (1 and 4), a pair.
        Due.is("18 both count twice", x.cost(0), 21);
        Due.is("18 both count twice", x.cost(1), 21);
    }

    private static void promise19() {
        InvariantLearner x = Tape.with("var x 0 9;start x<5;step if x<5;set x=x+5;"
                + "step if x=0;set x=9;test x<1;");
        Due.is("19 seed below 0", x.run(-1, 0), NONE);
        Due.is("19 n below 0", x.run(0, -1), NONE);
        Due.is("19 n beyond", x.run(0, 101), NONE);
        Due.is("19 no points", x.count(5), 0);
        // Seed 1: 1103527590, by 65536 it is 16838, of 5 it is 3; then 2524885223, less 2147483648
        // is 377401575, by 65536 it is 5758, of 1 it is 0.
        Due.is("19 run", x.run(1, 0), 0);
        Due.is("19 state", x.point(0, 0), 3);
        Due.is("19 told good", x.point(0, 2), 1);
        Due.is("19 none", x.run(1, 0), -2);
        Due.is("19 run", x.run(1, 100), 1);
        Due.is("19 state", x.point(1, 0), 8);
        Due.is("19 none", x.run(1, 100), -2);
        // Seed 0: 12345, of that 0: state 0; then 1406932606, by 65536 it is 21468, of 2 it is 0.
        Due.is("19 run", x.run(0, 1), 2);
        Due.is("19 state", x.point(2, 0), 0);
        Due.is("19 run", x.run(0, 1), 3);
        Due.is("19 state", x.point(3, 0), 5);
        Due.is("19 no end", x.ended(), 0);
        Due.is("19 no round", x.count(8), 0);
        Due.is("19 greatest seed", x.run(GREATEST_INT, 0) >= -2 ? 1 : 0, 1);
        Due.is("19 no starts", Tape.with("bad 1=1;").run(0, 0), NONE);
        Due.is("19 an end", learned(LINE).run(0, 0), NONE);
        // A point that is told bad may be told good, too.
        x = Tape.with("start 1=1;bad 1=1;");
        x.learn(1);
        Due.is("19 told bad", x.point(0, 2), 2);
        Due.is("19 the point that came", x.run(5, 5), 0);
        Due.is("19 told both", x.point(0, 2), 3);
        Due.is("19 then unsafe", x.learn(5), 1);
        Due.is("19 then unsafe", x.ended(), 2);
    }

    private static void promise20() {
        InvariantLearner x = Tape.with(DOWNFALL);
        Due.is("20 not unsafe", x.trace(0), NONE);
        x.learn(100);
        int[] states = new int[3];
        for (int i = 0; i < 3; i++) {
            states[i] = x.point(x.trace(i), 0);
        }
        Due.each("20 way", states, 0, 1, 2);
        Due.is("20 not so many", x.trace(3), -2);
        Due.is("20 not so many", x.trace(GREATEST_INT), -2);
        Due.is("20 below 0", x.trace(-1), NONE);
        x = learned("start 1=1;bad 1=1;");
        Due.is("20 at once", x.trace(0), 0);
        Due.is("20 at once", x.trace(1), -2);
        Due.is("20 proved", learned(LINE).trace(0), NONE);
        // A run tells 1 good ahead: the way begins there.
        x = Tape.with(DOWNFALL);
        x.run(0, 0);
        x.run(0, 1);
        x.learn(100);
        Due.is("20 unsafe", x.ended(), 2);
        Due.is("20 shorter", x.point(x.trace(0), 0), 1);
        Due.is("20 shorter", x.point(x.trace(1), 0), 2);
        Due.is("20 shorter", x.trace(2), -2);
    }

    private static void promise21() {
        InvariantLearner x = Tape.with(LINE);
        Due.is("21 no tree", x.rows(0, false), -2);
        Due.is("21 no tree", x.rows(1, false), -2);
        Due.is("21 not proved", x.rows(0, true), -2);
        Due.is("21 another what", x.rows(2, false), NONE);
        Due.is("21 another what", x.rows(-1, true), NONE);
        x.learn(1);
        Due.is("21 a row of nothing", x.rows(0, false), 1);
        Due.is("21 a row of nothing", x.rows(1, false), 0);
        Due.is("21 not proved", x.rows(0, true), -2);
        x.learn(1);
        Due.is("21 no row", x.rows(0, false), 0);
        x.learn(9);
        Due.is("21 rows", x.rows(0, false), 1);
        Due.is("21 tests", x.rows(1, false), 1);
        Due.is("21 short", x.rows(0, true), 1);
        Due.is("21 short", x.rows(1, true), 1);
        // No start: all rows go.
        x = learned("var x 0 3;bad x=0;test x<1;");
        Due.is("21 proved", x.ended(), 1);
        Due.is("21 short", x.rows(0, true), 0);
    }

    private static void promise22() {
        InvariantLearner x = Tape.with(LINE);
        Due.is("22 no tree", x.row(0, 0, false), NONE);
        Due.is("22 not proved", x.row(0, 0, true), NONE);
        x.learn(100);
        Due.is("22 it holds", x.row(0, 0, false), 101);
        Due.is("22 not so many tests", x.row(0, 1, false), -2);
        Due.is("22 not so many rows", x.row(1, 0, false), -2);
        Due.is("22 no such row", x.row(-1, 0, false), NONE);
        Due.is("22 no such test", x.row(0, -1, false), NONE);
        Due.is("22 no such test, no such row", x.row(7, -1, true), NONE);
        Due.is("22 short", x.row(0, 0, true), 101);
        Due.is("22 short", x.row(0, 1, true), -2);
        Due.is("22 short", x.row(1, 0, true), -2);
        // 0 is a start, 2 is bad, 4 is a start: rows x<1, and not x<1 but x>2; both are needed.
        x = learned("var x 0 4;start x=0;start x=4;bad x=2;test x<1;test x>2;");
        Due.is("22 proved", x.ended(), 1);
        Due.each("22 rows", new int[] {x.rows(0, false), x.row(0, 0, false), x.row(1, 0, false),
            x.row(1, 1, false)}, 2, 100, 0, 101);
        // Without x<1, x>2 alone still holds no bad one and, with the other row, all starts.
        Due.each("22 short", new int[] {x.rows(0, true), x.rows(1, true), x.row(0, 0, true),
            x.row(1, 0, true), x.row(1, 1, true)}, 2, 2, 100, 101, -2);
    }

    private static void promise23() {
        InvariantLearner x = Tape.with(LINE);
        Due.is("23 not proved", x.shortMany(), -2);
        x.learn(100);
        Due.is("23 states", x.shortMany(), 5);
        Due.is("23 stuck", learned("var x 0 1;start x=0;bad x=1;").shortMany(), -2);
        x = learned("var x 0 3;bad x=0;test x<1;");
        Due.is("23 held by the tree", x.many(5), 3 * (x.node(0, 0) == 2 ? 1 : 0));
        Due.is("23 no rows", x.shortMany(), 0);
        x = learned("var x 0 4;start x=0;start x=4;bad x=2;test x<1;test x>2;");
        Due.is("23 two rows", x.shortMany(), 3);
    }

    private static void promise24() {
        InvariantLearner x = Tape.with(LINE);
        Due.is("24 that hold", x.together(1), 2);
        Due.is("24 that don't", x.together(0), 4);
        Due.is("24 no such", x.together(2), NONE);
        Due.is("24 no such", x.together(-1), NONE);
        x = Tape.with("var x 0 1;bad x=0;test x=0;test x=1;");
        Due.is("24 without starts all", x.together(1), 3);
        Due.is("24 without starts all", x.together(0), 3);
        // 0 leads to 1, 1 leads to 2 by a test that goes first.
        x = Tape.with("var x 0 9;start x=0;step;set x=x+1;test x<1;test x<2;test x<3;test x<99;");
        Due.is("24 one goes after the other", x.together(1), 8);
        Due.is("24 one goes after the other", x.together(0), 0);
    }

    private static void promise25() {
        Due.is("25 proves", Tape.with(LINE).togetherProves(), 1);
        Due.is("25 without tests", Tape.with("var x 0 1;start x=0;bad x=1;").togetherProves(), 0);
        Due.is("25 nothing bad", Tape.with("start 1=1;").togetherProves(), 1);
        Due.is("25 without starts",
                Tape.with("var x 0 1;bad x=0;test x=0;").togetherProves(), 1);
        Due.is("25 not enough",
                Tape.with("var x 0 5;start x=0;start x=5;bad x=3;test x<1;test x>4;")
                        .togetherProves(), 0);
    }

    private static void promise26() {
        Due.is("26 at once", Tape.with(LINE).bySteps(), 1);
        // 1 leads to 3, 3 leads to 5.
        Due.is("26 three", Tape.with(TWOS).bySteps(), 3);
        Due.is("26 come to", Tape.with(DOWNFALL).bySteps(), -2);
        Due.is("26 a bad start", Tape.with("start 1=1;bad 1=1;").bySteps(), -2);
        Due.is("26 nothing bad", Tape.with("start 1=1;step;").bySteps(), 1);
        // From 1 to 20 by ones; 20 is bad: 19 states ahead of it.
        String chain = "var x 0 20;start x=0;step if x>0;set x=x+1;bad x=20;";
        Due.is("26 twenty", Tape.with(chain).bySteps(), 20);
        Due.is("26 by none to 20",
                Tape.with(chain.replace("x 0 20", "x -1 20").replace("start x=0", "start x<0")
                        .replace("x>0", "x>0-1")).bySteps(), -2);
        // A state that may stay, and may go on to a bad one.
        Due.is("26 alike ones", Tape.with(
                "var x 0 2;start x=0;step if x=1;step if x=1;set x=2;bad x=2;").bySteps(), -2);
    }

    private static void promise27() {
        InvariantLearner x = Tape.with(LINE);
        Due.each("27 bold", new int[] {x.ifLearned(0, 0, NONE, 0), x.ifLearned(0, 0, NONE, 1),
            x.ifLearned(0, 0, NONE, 2), x.ifLearned(0, 0, NONE, 3)}, 1, 4, 4, 3);
        // Without x<5 the points 2 and 7 can't be parted.
        Due.each("27 without a test", new int[] {x.ifLearned(0, 0, 1, 0), x.ifLearned(0, 0, 1, 1),
            x.ifLearned(0, 0, 1, 2), x.ifLearned(0, 0, 1, 3)}, 3, 4, 4, 3);
        // Without x<2 it is x<5 at once.
        Due.each("27 without another", new int[] {x.ifLearned(0, 0, 0, 0), x.ifLearned(0, 0, 0, 1),
            x.ifLearned(0, 0, 0, 2), x.ifLearned(0, 0, 0, 3)}, 1, 3, 2, 3);
        // Wary: start 0; all is so; bad 7; x<2; the pair from 1 to 2; x<5.
        Due.each("27 wary", new int[] {x.ifLearned(1, 0, NONE, 0), x.ifLearned(1, 0, NONE, 1)},
                1, 4);
        Due.is("27 no care", x.ifLearned(2, 0, NONE, 0), NONE);
        Due.is("27 no care", x.ifLearned(-1, 0, NONE, 0), NONE);
        Due.is("27 no order", x.ifLearned(0, 2, NONE, 0), NONE);
        Due.is("27 no order", x.ifLearned(0, -1, NONE, 0), NONE);
        Due.is("27 no test", x.ifLearned(0, 0, 3, 0), NONE);
        Due.is("27 no test", x.ifLearned(0, 0, -2, 0), NONE);
        Due.is("27 another what", x.ifLearned(0, 0, NONE, 4), NONE);
        Due.is("27 another what", x.ifLearned(0, 0, NONE, -1), NONE);
        Due.each("27 changes nothing", counts(x), 1, 1, 1, 1, 3, 0, 0, 0, 0, 0, 0, 0);
        x.run(0, 9);
        x.learn(1);
        Due.is("27 from the beginning", x.ifLearned(0, 0, NONE, 2), 4);
    }

    private static void promise28() {
        InvariantLearner x = Tape.with(LINE);
        Due.is("28 needed", x.needed(0, 0), 1);
        Due.is("28 no care", x.needed(2, 0), NONE);
        Due.is("28 no care", x.needed(-1, 0), NONE);
        Due.is("28 no order", x.needed(0, 2), NONE);
        Due.is("28 no order", x.needed(0, -1), NONE);
        Due.is("28 unsafe: all", Tape.with(DOWNFALL).needed(1, 1), 2);
        Due.is("28 nothing to learn", Tape.with("start 1=1;test 1=1;").needed(0, 1), 0);
    }

    private static void promise29() {
        InvariantLearner x = Tape.with(PLANE);
        Due.each("29 count", counts(x), 2, 2, 1, 2, 1, 0, 0, 0, 0, 0, 0, 0);
        x = Tape.with(LINE);
        x.ways(1, 0);
        x.ways(0, 1);
        x.learn(100);
        x.feed(0, 0, 0, 0, 0);
        Due.each("29 count", counts(x), 1, 1, 1, 1, 3, 4, 1, 3, 4, 0, 1, 20);
        Due.is("29 another what", x.count(12), NONE);
        Due.is("29 another what", x.count(-1), NONE);
    }
}
