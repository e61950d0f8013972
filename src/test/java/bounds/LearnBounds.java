/** The words on POINTS, PAIRS, LABELS and TREES that are FITTED. */
final class LearnBounds {
    /**
     * Ten states; 0 leads on by ones to 3. Bold: BAD 7; START 0; x<2 parts them, and the PAIR
     * from 1 to 2 comes; then x<5 costs nothing and is PROVED.
     */
    static final String LINE = "var x 0 9;start x=0;step if x<3;set x=x+1;bad x=7;"
            + "test x<2;test x<5;test x>7;";

    /** From 0 on by ones to 2, which is bad. Bold: BAD 2, START 0, the PAIRS 0 1, 1 2. */
    static final String DOWNFALL = "var x 0 2;start x=0;step;set x=x+1;bad x=2;"
            + "test x<1;test x<2;";

    /** 0 and 4 are starts, 2 is bad: the last tree is x<3 with x<1 below it. */
    static final String BETWEEN = "var x 0 4;start x=0;start x=4;bad x=2;test x<3;test x<1;";

    private LearnBounds() {
    }

    static void all() {
        points();
        labels();
        pairsGood();
        pairsBad();
        followAnew();
        nodes();
        leavesMadeAhead();
        bold();
        wary();
        leastCost();
        costOfLabels();
        costOfPairs();
        stuck();
        orderOfNodes();
    }

    /** An object that has read a text and has done so many ROUNDS by these ways. */
    static InvariantLearner after(String text, int ways, int rounds) {
        InvariantLearner x = Tape.with(text);
        x.ways(ways / 2, ways % 2);
        for (int left = rounds; left > 0; left -= 100) {
            x.learn(Math.min(left, 100));
        }
        return x;
    }

    private static void points() {
        Sentences.by("Terms",
                "POINTS are STATES that were told, numbered from 0 on as they came:");
        InvariantLearner x = Tape.with(LINE);
        Due.same("points", Show.points(x), "");
        x.learn(1);
        Due.same("points", Show.points(x), "7:2:2");
        x.learn(1);
        Due.same("points", Show.points(x), "7:2:2 0:1:1");
        x.learn(1);
        Due.same("points", Show.points(x), "7:2:2 0:1:1 1:0:0 2:0:0");
        x.run(0, 3);
        x.run(0, 3);
        x.run(0, 3);
        Due.same("points of runs, too", Show.points(x), "7:2:2 0:1:1 1:1:1 2:1:1 3:1:1");
    }

    private static void labels() {
        Sentences.by("Terms",
                "LABEL 0 none, 1 GOOD, 2 BAD, 3 both (it counts as GOOD and as BAD).");
        InvariantLearner x = after(LINE, 0, 100);
        Due.same("none, GOOD, BAD", Show.points(x), "7:2:2 0:1:1 1:0:0 2:0:0");
        x = after(DOWNFALL, 0, 100);
        Due.same("both", Show.points(x), "2:2:3 0:1:3 1:0:3");
        // x<1 has 0 on one side, 1 and 2 on the other: 1 and 4, times 4, and one PAIR.
        Due.is("cost of x<1", x.cost(0), 21);
        Due.is("cost of x<2", x.cost(1), 21);
        x = after("start 1=1;bad 1=1;", 0, 2);
        Due.same("told both", Show.points(x), "0:3:3");
    }

    private static void pairsGood() {
        Sentences.by("Terms", "PAIRS of POINTS: is the first one GOOD, so is the second one;");
        InvariantLearner x = after(LINE, 0, 3);
        Due.same("pairs", Show.pairs(x), "2>3");
        Due.is("a run tells the first one", x.run(0, 3), 2);
        Due.same("the second follows", Show.points(x), "7:2:2 0:1:1 1:1:1 2:0:1");
        // The last state that leaves x<2 is 1: the PAIR 1 2, of which a run tells the second.
        x = after("var x 0 3;start x=0;step if x=0;set x=2;step if x=1;set x=2;bad x=3;"
                + "test x<2;", 1, 3);
        Due.same("points", Show.points(x), "3:2:2 0:1:1 1:0:0 2:0:0");
        Due.is("a run tells the second one", x.run(0, 5), 3);
        Due.same("the first doesn't follow", Show.points(x), "3:2:2 0:1:1 1:0:0 2:1:1");
    }

    private static void pairsBad() {
        Sentences.by("Terms", "is the second one BAD, so is the first one.");
        String text = "var x 0 3;start x=0;bad x=3;step if x>0;set x=x+1;"
                + "test x<3;test x<2;test x<1;";
        InvariantLearner x = after(text, 0, 3);
        Due.same("the first follows", Show.points(x), "3:2:2 0:1:1 2:0:2");
        Due.same("pairs", Show.pairs(x), "2>0");
        x.learn(1);
        Due.same("and the first one of that", Show.points(x), "3:2:2 0:1:1 2:0:2 1:0:2");
        Due.same("pairs", Show.pairs(x), "2>0 3>2");
        Due.is("learn", x.learn(100), 1);
        Due.is("END", x.ended(), 1);
        // From 1 both to 2 and to 3, which is bad: x<2, then x<3 cuts no PAIR, then x<1.
        x = after("var x 0 3;start x=0;bad x=3;step if x=1;set x=2;step if x=1;set x=3;"
                + "test x<2;test x<3;test x<1;", 0, 4);
        Due.same("pairs", Show.pairs(x), "2>3 2>0");
        Due.same("the second one of a bad one doesn't follow", Show.points(x),
                "3:2:2 0:1:1 1:0:2 2:0:0");
        Due.is("learn", x.learn(100), 1);
        Due.same("tree", Show.tree(x), "t2(+,-)");
    }

    private static void followAnew() {
        Sentences.by("Terms", "TOLD labels: by the teacher; all others follow (anew each time).");
        InvariantLearner x = after(LINE, 0, 4);
        Due.same("1 and 2 were in a leaf that is so", Show.tree(x), "t1(+,-)");
        Due.same("but are not told so", Show.points(x), "7:2:2 0:1:1 1:0:0 2:0:0");
        // In the fourth round a leaf makes 3 BAD, by which 2 is; then neither is.
        x = after("var x 0 5;start x=0;bad x=5;step if x=2;set x=3;test x>2;test x=2;test x=4;",
                0, 4);
        Due.same("points", Show.points(x), "5:2:2 0:1:1 2:0:0 3:0:0");
        Due.is("cost of x>2: a PAIR", x.cost(0), 1);
    }

    private static void nodes() {
        Sentences.by("Terms", "FITTED: a TREE for all POINTS: NODES, numbered from 0 on "
                + "as they are made: first the root. A NODE has some POINTS (the root all).");
        InvariantLearner x = after(BETWEEN, 0, 3);
        Due.same("x<3 holds for both points", Show.tree(x), "t1(+,-)");
        x.learn(1);
        Due.same("tree", Show.tree(x), "t0(t1(+,-),+)");
        Due.same("root", Show.node(x, 0), "2 0 1 4 3 0 5");
        Due.same("x<3", Show.node(x, 1), "2 1 2 3 2 1 3");
        Due.same("x<1", Show.node(x, 2), "1 -2 -2 -2 1 2 1");
        Due.same("1 and 2", Show.node(x, 3), "0 -2 -2 -2 1 2 2");
        Due.same("3 and 4", Show.node(x, 4), "1 -2 -2 -2 1 1 2");
        Due.is("nodes", x.count(7), 5);
        x = after(LINE, 0, 1);
        Due.same("of no points", Show.node(x, 0), "1 -2 -2 -2 0 0 10");
        Due.is("nodes", x.count(7), 1);
        x = after("var x 0 4;start x=0;start x=4;bad x=2;test x>3;test x>1;", 0, 4);
        Due.same("tree", Show.tree(x), "t0(+,t1(-,+))");
        Due.same("parted on the other side", Show.node(x, 2), "2 1 3 4 2 1 4");
        largeTrees();
        deepWhereItDoesNotHold();
        deepWhereItHolds();
    }

    /** START 0 to 15, BAD 16; each of sixteen TESTS holds for one START. */
    private static void deepWhereItDoesNotHold() {
        StringBuilder text = new StringBuilder("var x 0 16;start x<16;bad x=16;");
        StringBuilder tree = new StringBuilder("-");
        for (int t = 0; t < 16; t++) {
            text.append("test x=").append(t).append(";");
            tree.insert(0, "t" + (15 - t) + "(+,").append(")");
        }
        InvariantLearner x = after(text.toString(), 0, 100);
        Due.is("END", x.ended(), 1);
        Due.is("rounds: a BAD one, sixteen STARTS, one more", x.count(8), 18);
        Due.same("tree", Show.tree(x), tree.toString());
        Due.same("the deepest", Show.node(x, 32), "0 -2 -2 -2 1 16 1");
        Due.is("held", x.many(5), 16);
        Due.is("tests of all rows", x.rows(1, false), 136);
        Due.is("the last test of the last row", x.row(15, 15, false), 115);
        Due.is("there is none behind it", x.row(15, 16, false), -2);
        Due.is("tests of all shorter rows", x.rows(1, true), 16);
        Due.is("held by these", x.shortMany(), 16);
    }

    /**
     * A ring of sixteen points, told GOOD by runs, round the BAD one. Each TEST is a line that
     * holds for all of these but one of the ring: sixteen are needed to leave the BAD one alone.
     */
    private static void deepWhereItHolds() {
        int[][] ways = {{1, 0}, {2, 1}, {1, 1}, {1, 2}, {0, 1}, {-1, 2}, {-1, 1}, {-2, 1},
            {-1, 0}, {-2, -1}, {-1, -1}, {-1, -2}, {0, -1}, {1, -2}, {1, -1}, {2, -1}};
        StringBuilder text = new StringBuilder("var x 0 9;var y 0 9;start 1=1;bad x=4 and y=5;");
        int[] ring = new int[16];
        int px = 4;
        int py = 0;
        for (int i = 0; i < 16; i++) {
            int[] next = ways[(i + 1) % 16];
            px += ways[i][0];
            py += ways[i][1];
            ring[i] = 10 * px + py;
            // What is right of the way to this point and right of the way from it, together.
            int a = ways[i][1] + next[1];
            int b = -ways[i][0] - next[0];
            text.append("test 20").append(signed(a, "x")).append(signed(b, "y")).append("<")
                    .append(20 + a * px + b * py).append(";");
        }
        InvariantLearner x = Tape.with(text.toString());
        for (int i = 0; i < 16; i++) {
            Due.is("run", x.run(seedOf(ring[i], 100), 0), i);
            Due.is("its state", x.point(i, 0), ring[i]);
        }
        x.learn(1);
        Due.same("the BAD one", Show.brought(x), "2 16 -2");
        for (int t = 0; t < 16; t++) {
            Due.is("cost of test " + t, x.cost(t), 60);
        }
        x.learn(1);
        StringBuilder tree = new StringBuilder("-");
        for (int t = 15; t >= 0; t--) {
            tree.insert(0, "t" + t + "(").append(",+)");
        }
        Due.same("tree", Show.tree(x), tree.toString());
        Due.is("depth of the BAD one", x.node(16, 5), 16);
        Due.is("the last test of the first row", x.row(0, 15, false), 15);
        Due.is("the first test of the last row", x.row(15, 0, false), 0);
        Due.is("it has one", x.row(15, 1, false), -2);
    }

    private static String signed(int factor, String name) {
        return (factor < 0 ? "-" : "+") + Math.abs(factor) + "*" + name;
    }

    /** A seed by which the START of this number is drawn first. */
    private static int seedOf(int start, int starts) {
        int seed = 0;
        while (((seed * 1103515245L + 12345) % 2147483648L) / 65536 % starts != start) {
            seed++;
        }
        return seed;
    }

    /** Trees of more than 300 NODES: all POINTS and all STATES come to just one leaf each. */
    private static void largeTrees() {
        for (int number : new int[] {1, 5}) {
            HardSystems.Hard hard = HardSystems.ALL[number];
            InvariantLearner x = after(hard.text(), hard.ways(), 400);
            int leaves = 0;
            int points = 0;
            int states = 0;
            for (int n = 0; n < x.count(7); n++) {
                if (x.node(n, 0) != 2) {
                    leaves++;
                    points += x.node(n, 4);
                    states += x.node(n, 6);
                }
            }
            Due.is("more than 300 nodes", x.count(7) > 300 ? 1 : 0, 1);
            Due.is("nodes", x.count(7), 2 * leaves - 1);
            Due.is("points", points, x.count(5));
            Due.is("states", states, x.many(0));
            Due.is("END", x.ended(), 1);
        }
    }

    private static void leavesMadeAhead() {
        Sentences.by("Terms", "LABELS as TOLD and as follows from these and from leaves made "
                + "ahead.");
        // x<3 has 0 and 2: so, 2 becomes GOOD, and 3, by the PAIR, which is with 5 then.
        InvariantLearner x = after("var x 0 5;start x=0;bad x=5;step if x=2;set x=3;"
                + "test x<3;test x=3;test x=4;", 0, 4);
        Due.same("3 is good, as 2 became so", Show.tree(x), "t0(+,t1(+,-))");
        Due.is("END", x.ended(), 1);
        // x>2 has 3 and 5: not so, 3 becomes BAD, and 2, by the PAIR, which is with 0 then.
        x = after("var x 0 5;start x=0;bad x=5;step if x=2;set x=3;test x>2;test x=2;test x=4;",
                0, 4);
        Due.same("2 is bad, as 3 became so", Show.tree(x), "t0(-,t1(-,+))");
        Due.is("END", x.ended(), 1);
    }

    private static void bold() {
        Sentences.by("Terms", "CARE 0 (bold): is none of its POINTS BAD: a leaf that is so: "
                + "each of its POINTS becomes GOOD (and what follows);");
        Due.same("no points", Show.tree(after(LINE, 0, 1)), "+");
        InvariantLearner x = Tape.with(LINE);
        x.run(0, 0);
        x.learn(1);
        Due.same("a good one", Show.tree(x), "+");
        Due.same("no label and good", Show.tree(after(LINE, 0, 4)), "t1(+,-)");
        // STEPS keep x, START has 1 and BAD has 2: beyond 6 no POINT has a LABEL.
        x = after("var x 0 8;var y 0 2;start x=1 and y=1;bad x=2 and y=0;step;set y=0;test x>6;"
                + "test y<0;test x+y>8;test y<1;test x<6;test x>0;test y=2;", 1, 8);
        Due.same("no label alone", Show.tree(x), "t0(+,t3(-,t4(t6(-,+),-)))");
        Sentences.by("Terms", "else is none GOOD: a leaf that is not so: "
                + "each becomes BAD (and what follows).");
        Due.same("a bad one", Show.tree(after(LINE, 0, 2)), "-");
        x = after("var x 0 5;start x=0;bad x=5;step if x=2;set x=3;test x>2;test x=2;", 0, 4);
        Due.same("no label and bad: 3 and 5", Show.tree(x), "t0(-,t1(-,+))");
    }

    private static void wary() {
        Sentences.by("Terms", "CARE 1 (wary): first is none GOOD: not so;");
        Due.same("no points", Show.tree(after(LINE, 2, 1)), "-");
        // STEPS keep x, START has 4 and BAD has 5: below 2 no POINT has a LABEL.
        InvariantLearner x = after("var x 0 5;var y 0 3;start x=4 and y=3;bad x=5 and y=1;step;"
                + "set y=3-y;test x<2;test x+y=0;test x>y;test x<0;test x>5;test y<2;test x=y;"
                + "test y=2;", 2, 8);
        Due.same("no label alone", Show.tree(x), "t0(-,t5(-,t2(t7(-,+),-)))");
        Sentences.by("Terms", "then is none BAD: so.");
        x = after(LINE, 2, 2);
        Due.same("a good one", Show.tree(x), "+");
        Due.same("then a bad one comes", Show.points(x), "0:1:1 7:2:2");
        x.learn(1);
        Due.same("both", Show.tree(x), "t0(+,-)");
    }

    private static void leastCost() {
        Sentences.by("Terms",
                "Else it is PARTED by the TEST of the least COST, the first of several:");
        Due.same("x<2 and x<5 cost nothing", Show.tree(after(LINE, 0, 3)), "t0(+,-)");
        InvariantLearner x = after(LINE, 0, 4);
        Due.is("x<2", x.cost(0), 1);
        Due.is("x<5", x.cost(1), 0);
        Due.same("the second costs less", Show.tree(x), "t1(+,-)");
        x = after(BETWEEN, 0, 4);
        Due.is("x<3", x.cost(0), 4);
        Due.is("x<1", x.cost(1), 4);
        Due.same("the first of both", Show.tree(x), "t0(t1(+,-),+)");
        Sentences.by("Terms", "of those that hold for one of its POINTS at least, not for all:");
        x = after(BETWEEN, 0, 2);
        Due.is("x<3 holds for all", x.cost(0), -2);
        x.learn(1);
        Due.same("so it is the other", Show.tree(x), "t1(+,-)");
        x = after("var x 0 4;start x=0;bad x=2;test x>3;test x>1;", 0, 2);
        Due.is("x>3 holds for none", x.cost(0), -2);
        x.learn(1);
        Due.same("so it is the other", Show.tree(x), "t1(-,+)");
    }

    /** Tells all STARTS, each by a run of no steps. */
    private static void tellStarts(InvariantLearner x) {
        for (int seed = 0; x.count(5) < x.many(1) && seed < 1000; seed++) {
            x.run(seed, 0);
        }
    }

    private static void costOfLabels() {
        Sentences.by("Terms", "on each side (GOOD times BAD, by LABELS as they are then), "
                + "both sides together, times 4,");
        InvariantLearner x = Tape.with("var x 0 9;start x<4;bad x>5;"
                + "test x=6;test x<7;test x<2;test x>2;");
        tellStarts(x);
        x.learn(2);
        Due.is("0 to 3 are good, 6 and 7 are bad", x.count(5), 6);
        Due.each("costs", new int[] {x.cost(0), x.cost(1), x.cost(2), x.cost(3)}, 16, 16, 16, 8);
        x.learn(1);
        Due.same("tree", Show.tree(x), "t3(t0(-,t1(+,-)),+)");
        x = Tape.with("var x 0 9;start x>1 and x<6;bad x=0;bad x=9;test x=0;test x<4;test x<2;");
        tellStarts(x);
        x.learn(2);
        Due.is("2 to 5 are good, 0 and 9 are bad", x.count(5), 6);
        Due.each("costs", new int[] {x.cost(0), x.cost(1), x.cost(2)}, 16, 16, 16);
        Due.is("without points", Tape.with(LINE).cost(0), -2);
        labelsAsTheyAreThen();
    }

    /**
     * The PAIRS 9 0 and 7 2 came. Below x<5 are 3, which is bad, 0 and 2: not so, by which 9 and 7
     * become bad; so of 5, 9, 7 x>7 would leave 7 with 5, which costs 4, and x>6 costs nothing.
     */
    private static void labelsAsTheyAreThen() {
        InvariantLearner x = after("var x 0 9;start x=5;bad x=3;step if x>6;set x=9-x;"
                + "test x>7;test x<5;test x>6;", 1, 4);
        Due.same("points", Show.points(x), "3:2:2 5:1:1 9:0:0 0:0:0 7:0:0 2:0:0");
        Due.same("pairs", Show.pairs(x), "2>3 4>5");
        Due.each("costs", new int[] {x.cost(0), x.cost(1), x.cost(2)}, 5, 2, 6);
        x.learn(1);
        Due.same("tree", Show.tree(x), "t1(-,t2(-,+))");
        Due.is("END", x.ended(), 1);
    }

    private static void costOfPairs() {
        Sentences.by("Terms", "and PAIRS (each once, both POINTS being of this NODE) "
                + "of which one POINT is on the one, the other on the other side of this NODE;");
        InvariantLearner x = after(LINE, 0, 3);
        Due.is("x<2 cuts the PAIR from 1 to 2", x.cost(0), 1);
        Due.is("x<5 doesn't", x.cost(1), 0);
        // The PAIRS 5 2, 6 1 and 2 5: x<5 cuts all three, x<2 the second one.
        x = after("var x 0 7;start x=3;bad x=0;step;set x=7-x;test x<5;test x<3;test x<7;test x<2;",
                0, 5);
        Due.same("points", Show.points(x), "0:2:2 3:1:1 5:0:0 2:0:0 6:0:0 1:0:0");
        Due.same("pairs", Show.pairs(x), "2>3 4>5 3>2");
        Due.each("each once", new int[] {x.cost(0), x.cost(1), x.cost(2), x.cost(3)}, 7, 3, -2, 1);
        // The PAIRS 6 3 and 5 2. Beside x<3 are 3, 5 and 6; x<4 and x=6 both mix two of them and
        // cut 6 3; x<4 parts 5 from 2, too, but 2 is of another NODE.
        x = after("var x 0 7;start x=6;bad x=0;step if x>2;set x=x-3;test x<4;test x=6;test x<3;",
                3, 5);
        Due.same("pairs", Show.pairs(x), "0>2 3>4 2>1");
        Due.same("tree", Show.tree(x), "t2(-,t0(+,t1(+,-)))");
    }

    private static void stuck() {
        Sentences.by("Terms", "is there no such TEST, it is STUCK.");
        InvariantLearner x = after("var x 0 1;start x=0;bad x=1;test x<5;", 0, 100);
        Due.is("a test that holds for all", x.ended(), 3);
        Due.is("no tests", after("var x 0 1;start x=0;bad x=1;", 0, 100).ended(), 3);
        Due.is("a test that holds for none",
                after("var x 0 1;start x=0;bad x=1;test x>5;", 0, 100).ended(), 3);
        Due.is("a test that parts them",
                after("var x 0 1;start x=0;bad x=1;test x>0;", 0, 100).ended(), 1);
    }

    private static void orderOfNodes() {
        Sentences.by("Terms", "A parted NODE is made, then all of the side where it holds, "
                + "then all of the other side.");
        InvariantLearner x = after(BETWEEN, 0, 4);
        Due.each("node", new int[] {x.node(0, 2), x.node(1, 2), x.node(1, 3), x.node(0, 3)},
                1, 2, 3, 4);
        x = after("var x 0 4;start x=0;start x=4;bad x=2;test x>1;test x>3;", 0, 4);
        Due.same("tree", Show.tree(x), "t0(t1(+,-),+)");
        x = after("var x 0 4;start x=0;start x=4;bad x=2;test x>3;test x>1;", 0, 4);
        Due.same("tree", Show.tree(x), "t0(+,t1(-,+))");
        Due.each("node", new int[] {x.node(0, 2), x.node(0, 3), x.node(2, 2), x.node(2, 3)},
                1, 2, 3, 4);
    }
}
