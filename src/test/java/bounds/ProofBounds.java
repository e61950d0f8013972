/** The words on ROWS, SHORTER, TOGETHER, by how many STEPS, and promises 21 to 29. */
final class ProofBounds {
    private static final int[] FAR = {Integer.MIN_VALUE, -1000000, Integer.MAX_VALUE};
    private static final String STUCK = "var x 0 1;start x=0;bad x=1;";

    private ProofBounds() {
    }

    static void all() {
        rows();
        shorter();
        together();
        bySteps();
        askedChangesNothing();
        orderOfAnswers();
        refusedChangesNothing();
        promise21();
        promise22();
        promise22Refused();
        promise23();
        promise24();
        promise25();
        promise26();
        promise27();
        promise27Refused();
        promise28();
        promise29();
    }

    private static InvariantLearner after(String text, int ways, int rounds) {
        return LearnBounds.after(text, ways, rounds);
    }

    private static void rows() {
        Sentences.by("Terms", "ROWS of a TREE: for each leaf that is so, in the order of NODES, "
                + "the TESTS above it from the root on, each as it holds (1) or not (0).");
        InvariantLearner x = after(LearnBounds.BETWEEN, 0, 4);
        Due.same("tree", Show.tree(x), "t0(t1(+,-),+)");
        Due.same("rows", Show.rows(x, false), "100 101 / 0");
        x = after("var x 0 4;start x=0;start x=4;bad x=2;test x>3;test x>1;", 0, 4);
        Due.same("tree", Show.tree(x), "t0(+,t1(-,+))");
        Due.same("rows", Show.rows(x, false), "100 / 0 1");
        Due.same("a root that is so", Show.rows(after(LearnBounds.LINE, 0, 1), false), ".");
        Due.same("a root that is not so", Show.rows(after(LearnBounds.LINE, 0, 2), false), "");
        Sentences.by("Terms", "A set of ROWS holds a STATE, if one of them does, "
                + "all of its TESTS being as told.");
        x = after(LearnBounds.BETWEEN, 0, 4);
        Due.same("shorter rows: x<1, and x<3 not", Show.rows(x, true), "101 / 0");
        Due.is("0, 3 and 4", x.shortMany(), 3);
        Due.is("no rows hold none", after("var x 0 3;bad x=0;", 2, 1).shortMany(), 0);
        Due.is("a row of no tests holds all", after("var x 0 3;start x=0;", 0, 1).shortMany(), 4);
    }

    private static void shorter() {
        Sentences.by("Terms", "It PROVES, if it holds all STARTS, no BAD one, "
                + "and with a STATE all to which STEPS lead.");
        InvariantLearner x = after(LearnBounds.LINE, 0, 100);
        Due.same("without x<5 it would hold a BAD one", Show.rows(x, true), "101");
        x = after(LearnBounds.BETWEEN, 0, 100);
        Due.same("without a row it would not hold a START", Show.rows(x, true), "101 / 0");
        x = after("var x 0 4;start x=0;bad x=1;step;set x=2;test x>1;test x>0;", 1, 100);
        Due.same("rows", Show.rows(x, false), "100 / 0 1");
        Due.same("without the first it would hold 0, but not 2, to which a STEP leads",
                Show.rows(x, true), "100 / 1");
        x = after("var x 0 2;start x=2;bad x=1;step;set x=0;test x<1;test x<2;", 0, 100);
        Due.same("or 2, but not 0", Show.rows(x, true), "100 / 1");
        Sentences.by("Terms", "SHORTER (of a TREE that is PROVED): ROW by ROW, in each TEST by "
                + "TEST: without it, if the set still PROVES; then ROW by ROW: without it, "
                + "if the set still PROVES.");
        x = after(LearnBounds.BETWEEN, 0, 100);
        Due.same("rows", Show.rows(x, false), "100 101 / 0");
        Due.same("the first TEST of the first ROW goes", Show.rows(x, true), "101 / 0");
        x = after("var x 0 4;start x=0;start x=4;bad x=2;test x<1;test x>2;", 0, 100);
        Due.same("rows", Show.rows(x, false), "100 / 0 101");
        Due.same("the first TEST of the second ROW goes", Show.rows(x, true), "100 / 101");
        x = after("var x 0 3;bad x=0;test x<1;", 0, 100);
        Due.same("no STARTS: no ROW is needed", Show.rows(x, true), "");
        x = after("var x 0 3;", 0, 1);
        Due.same("a ROW of no TESTS", Show.rows(x, false), ".");
        Due.same("goes, too", Show.rows(x, true), "");
        x = after("var x 0 3;start x=3;", 0, 1);
        Due.same("or stays", Show.rows(x, true), ".");
        shorterInOrder();
    }

    private static void shorterInOrder() {
        // START 5, BAD 3, steps from x to 6-x: all but 3 is held.
        InvariantLearner x = after("var x 0 6;start x=5;bad x=3;step;set x=6-x;"
                + "test x>4;test x<4;test x<3;", 0, 100);
        Due.same("rows", Show.rows(x, false), "100 / 0 102 / 0 2 1");
        Due.same("x>4 isn't needed beside x<4 not", Show.rows(x, true), "102 / 1");
        Due.is("all but 3", x.shortMany(), 6);
        // x+y=2 and x>y, or x<3 and x>y: the first TEST goes, though the second could instead.
        x = after("var x 0 8;var y 0 3;start x=2;bad x=8 and y=2;bad x=1 and y=1;"
                + "test x<3;test x+y=2;test x>y;", 1, 100);
        Due.same("rows", Show.rows(x, false), "100 101 102 / 100 1");
        Due.same("TEST by TEST from the first", Show.rows(x, true), "101 102 / 100 1");
        // From x 3 steps lead to x 0 with 3-y: y=0 could go from the first ROW only if y=0 not had
        // gone from the second one ahead.
        x = after("var x 0 3;var y 0 3;start x=3 and y=0;bad x=1 and y=0;step;set x=x-3;set y=3-y;"
                + "test y=0;test x<1;test x<3;", 0, 100);
        Due.same("rows", Show.rows(x, false), "100 2 / 0 101");
        Due.same("ROW by ROW from the first", Show.rows(x, true), "100 2 / 101");
        // x=0, x=y, y=2: without x=0 it proves, and without x=y, but not without both.
        x = after("var x 0 4;var y 0 2;start x=0 and y=0;bad x=1 and y=0;bad x=2 and y=1;"
                + "step if y<2;set x=x+2;set y=2;test x=y;test y=2;test x=0;", 1, 100);
        Due.same("rows", Show.rows(x, false), "102 / 2 100 / 2 0 101");
        Due.same("the first ROW goes", Show.rows(x, true), "100 / 101");
        x = after("var x 0 8;var y 0 2;start x=7 and y=1;start x=4 and y=0;bad x=5;step if x=y;"
                + "set x=x+4;test x<5;test y=1;test x=y;test x>y;test x<6;test y<0;", 3, 100);
        Due.same("rows", Show.rows(x, false), "101 4 / 1 100 / 1 0 4");
        Due.same("the first ROW goes ahead of a longer one", Show.rows(x, true), "1 100 / 4");
    }

    private static void together() {
        Sentences.by("Terms", "TOGETHER: of all TESTS, as they hold and as they don't, "
                + "those that hold in all STARTS;");
        InvariantLearner x = Tape.with("var x 0 9;start x=1;start x=3;"
                + "test x<2;test x<4;test x>5;test x>3;test x=1;");
        Due.is("x<4 holds", x.together(1), 2);
        Due.is("x>5, x>3 don't", x.together(0), 12);
        x = Tape.with("var x 0 1;bad x=0;test x=0;test x=1;");
        Due.is("without STARTS all", x.together(1), 3);
        Due.is("without STARTS all", x.together(0), 3);
        x = Tape.with("var x 0 1;start x=0;");
        Due.is("without TESTS none", x.together(1), 0);
        Due.is("without TESTS none", x.together(0), 0);
        Sentences.by("Terms", "then again and again those go that don't hold in a STATE to which "
                + "a STEP leads from one in which all that are left hold, till none goes.");
        x = Tape.with("var x 0 9;start x=0;step;set x=x+1;test x<1;test x<2;test x<3;test x<99;");
        Due.is("one goes after the other", x.together(1), 8);
        Due.is("one goes after the other", x.together(0), 0);
        x = Tape.with("var x 0 9;start x=0;step if x<2;set x=x+1;test x<1;test x<2;test x<3;"
                + "test x>1;test x>2;");
        Due.is("x<3 stays", x.together(1), 4);
        Due.is("x>2, as it doesn't hold, stays", x.together(0), 16);
        // From 5 a STEP leads to 9, but in 5 not all that are left hold.
        x = Tape.with("var x 0 9;start x=0;step if x=5;set x=9;test x<4;test x<7;");
        Due.is("no STEP from where all hold", x.together(1), 3);
        x = Tape.with("var x 0 9;start x=0;step if x=3;set x=9;test x<4;test x<7;");
        Due.is("a STEP from a STATE that isn't COME TO", x.together(1), 0);
        x = Tape.with("var x 0 9;start x=0;step if x=0;set x=5;step if x=6;set x=9;"
                + "test x<4;test x<8;");
        Due.is("x<4 goes, then x<8, by 6", x.together(1), 0);
        StringBuilder chain = new StringBuilder("var x 0 20;start x=0;step;set x=x+1;");
        for (int t = 16; t > 0; t--) {
            chain.append("test x<").append(t).append(";");
        }
        Due.is("sixteen, the last one first", Tape.with(chain.toString()).together(1), 0);
        downwards("x>", 19);
        downwards("x<", 20);
        x = Tape.with("var x 0 2;start x=1;step;set x=0;test x>0;test x<2;");
        Due.is("to state 0", x.together(1), 2);
    }

    /** Sixteen TESTS, as they hold or as they don't, go one by one from 20 downwards. */
    private static void downwards(String test, int first) {
        StringBuilder chain = new StringBuilder("var x 0 20;start x=20;step;set x=x-1;");
        for (int t = 0; t < 16; t++) {
            chain.append("test ").append(test).append(first - t).append(";");
        }
        InvariantLearner x = Tape.with(chain.toString());
        Due.is("downwards", x.together(1), 0);
        Due.is("downwards", x.together(0), 0);
    }

    private static void bySteps() {
        Sentences.by("Terms", "By how many STEPS: k (1 .. 20): no BAD STATE is COME TO,");
        Due.is("a BAD START", Tape.with("start 1=1;bad 1=1;").bySteps(), -2);
        Due.is("by two STEPS", Tape.with(LearnBounds.DOWNFALL).bySteps(), -2);
        Due.is("nothing BAD", Tape.with("start 1=1;step;").bySteps(), 1);
        Due.is("no STARTS", Tape.with("bad 1=1;step;").bySteps(), 1);
        Sentences.by("Terms", "and no k STATES (anywhere; some may be alike) that aren't BAD, "
                + "one to the next by a STEP, are followed by a STEP to a BAD one.");
        Due.is("no STEP to a BAD one", Tape.with(LearnBounds.LINE).bySteps(), 1);
        Due.is("one STATE leads to it",
                Tape.with("var x 0 2;start x=0;bad x=2;step if x=1;set x=2;").bySteps(), 2);
        Due.is("a BAD state 0",
                Tape.with("var x 0 2;start x=2;bad x=0;step if x=1;set x=0;").bySteps(), 2);
        Due.is("from state 0",
                Tape.with("var x 0 2;start x=2;bad x=1;step if x=0;set x=1;").bySteps(), 2);
        Due.is("by state 0", Tape.with("var x 0 3;start x=2;bad x=3;step if x=1;set x=0;"
                + "step if x=0;set x=3;").bySteps(), 3);
        Due.is("1 leads to 3, 3 to 5",
                Tape.with("var x 0 5;start x=0;step if x<4;set x=x+2;bad x=5;").bySteps(), 3);
        // 2, 3 and 4 are BAD and follow one another: only 1 isn't.
        Due.is("BAD ones don't count",
                Tape.with("var x 0 4;start x=0;bad x>1;step if x>0;set x=x+1;").bySteps(), 2);
        // 1 may stay, and may go on to 2, which is BAD.
        Due.is("alike ones", Tape.with(
                "var x 0 2;start x=0;step if x=1;step if x=1;set x=2;bad x=2;").bySteps(), -2);
        // A ring of 1 and 2, of which 2 leads to 3, which is BAD.
        Due.is("a ring", Tape.with("var x 0 3;start x=0;bad x=3;step if x=1;set x=2;step if x=2;"
                + "set x=1;step if x=2;set x=3;").bySteps(), -2);
        // A STATE that may stay, but doesn't lead to a BAD one.
        Due.is("a ring elsewhere", Tape.with("var x 0 3;start x=0;bad x=3;step if x=0;"
                + "step if x=2;set x=3;").bySteps(), 2);
    }

    /** Asks all there is, with arguments that are fine and that are not. */
    private static void askAll(InvariantLearner x) {
        Whole.of(x);
        for (int a = -2; a < 20; a++) {
            x.fault(a);
            x.many(a);
            x.brought(a);
            x.cost(a);
            x.trace(a);
            x.together(a);
            x.count(a);
            for (int b = -2; b < 9; b++) {
                Tape.value(x, a, b);
                x.stateOf(a, b, a);
                x.is(a, b);
                x.next(a, b);
                x.holds(a, b);
                x.point(a, b);
                x.pair(a, b);
                x.node(a, b);
                x.rows(a, b > 3);
                x.row(a, b, b > 3);
                x.ifLearned(a, b, a, b);
                x.needed(a, b);
            }
        }
    }

    private static void askedChangesNothing() {
        Sentences.by("Terms", "What is asked changes nothing.");
        for (String text : new String[] {LearnBounds.LINE, LearnBounds.DOWNFALL,
            LearnBounds.BETWEEN, STUCK, HardSystems.ALL[3].text()}) {
            InvariantLearner asked = Tape.with(text);
            InvariantLearner quiet = Tape.with(text);
            Tape.feed(asked, "test 1=1;");
            for (int round = 0; round < 7; round++) {
                askAll(asked);
                Due.is("learn", asked.learn(1), quiet.learn(1));
                askAll(asked);
                Due.is("run", asked.run(round, round), quiet.run(round, round));
            }
            Due.same("all of it", Whole.of(asked), Whole.of(quiet));
            Due.is("the tape", asked.count(11), 20);
            Due.is("its bytes", asked.text(9), 1);
        }
    }

    private static void orderOfAnswers() {
        Sentences.by("Terms", "Of several answers that hold NONE goes first, then -2.");
        InvariantLearner x = Tape.with(LearnBounds.LINE);
        Due.is("is: no state, no point", x.is(10, 5), -1);
        Due.is("next: no state, a step that can't be taken", x.next(10, 0), -1);
        Due.is("next: a state where it can't be taken, no step", x.next(9, 1), -1);
        Due.is("cost: no test, no points", x.cost(3), -1);
        Due.is("rows: another what, no tree", x.rows(2, false), -1);
        Due.is("rows: another what, not PROVED", x.rows(-1, true), -1);
        Due.is("row: not so many, no tree", x.row(5, 5, false), -1);
        Due.is("row: not so many, not PROVED", x.row(5, 5, true), -1);
        x.learn(100);
        Due.is("row: not so many rows, i below 0", x.row(5, -1, false), -1);
        Due.is("row: k below 0, not so many tests", x.row(-1, 5, false), -1);
        Due.is("row: not so many rows, i below 0 (short)", x.row(5, -1, true), -1);
        Due.is("row: k below 0, not so many tests (short)", x.row(-1, 5, true), -1);
        Due.is("node: a leaf, another what", x.node(1, 7), -1);
        Due.is("run: none must come, there is an END", x.run(0, 0), -1);
        Due.is("trace: not so many, not UNSAFE", x.trace(9), -1);
        Sentences.by("Terms", "IndexOutOfBoundsException ahead of NoSuchElementException.");
        Due.is("value(10, 1)", Tape.value(x, 10, 1), 1000);
        Due.is("value(-1, -1)", Tape.value(x, -1, -1), 1000);
        Due.is("value(1, 0) of a new object", Tape.value(new InvariantLearner(), 1, 0), 1000);
    }

    private static void refusedChangesNothing() {
        Sentences.by("Terms", "A call that is refused changes nothing.");
        for (int rounds = 0; rounds < 5; rounds++) {
            InvariantLearner x = after(LearnBounds.LINE, 0, rounds);
            Tape.feed(x, "@");
            String before = Whole.of(x);
            x.text(21);
            x.text(-1);
            x.ways(2, 1);
            x.ways(1, 2);
            x.ways(-1, 1);
            x.ways(1, -1);
            x.learn(0);
            x.learn(101);
            x.run(-1, 5);
            x.run(5, -1);
            x.run(5, 101);
            Tape.value(x, 10, 0);
            Tape.value(x, 0, 1);
            Due.same("all of it", Whole.of(x), before);
            Due.is("the tape", x.count(11), 20);
            Due.is("no fault", x.fault(0), 0);
        }
        InvariantLearner x = Tape.with("bad 1=1;");
        x.run(0, 0);
        Due.is("a run without STARTS", x.count(5), 0);
    }

    private static void promise21() {
        Sentences.by("Promise 21",
                "ROWS, what 0 how many, 1 all TESTS in them together; short: SHORTER;");
        InvariantLearner x = after(LearnBounds.BETWEEN, 0, 100);
        Due.each("rows", new int[] {x.rows(0, false), x.rows(1, false), x.rows(0, true),
            x.rows(1, true)}, 2, 3, 2, 2);
        x = after("var x 0 5;start x=0;bad x=5;step if x=2;set x=3;test x>2;test x=2;", 0, 4);
        Due.same("tree", Show.tree(x), "t0(-,t1(-,+))");
        Due.each("rows", new int[] {x.rows(0, false), x.rows(1, false)}, 1, 2);
        x = after(LearnBounds.LINE, 0, 1);
        Due.each("a root that is so", new int[] {x.rows(0, false), x.rows(1, false)}, 1, 0);
        x.learn(1);
        Due.each("a root that isn't", new int[] {x.rows(0, false), x.rows(1, false)}, 0, 0);
        Sentences.by("Promise 21", "-2: there is no TREE (short: it isn't PROVED);");
        Due.is("not PROVED yet", x.rows(0, true), -2);
        Due.is("not PROVED yet", x.rows(1, true), -2);
        x = new InvariantLearner();
        Due.each("no TREE", new int[] {x.rows(0, false), x.rows(1, false), x.rows(0, true),
            x.rows(1, true)}, -2, -2, -2, -2);
        Due.is("UNSAFE", after(LearnBounds.DOWNFALL, 0, 100).rows(0, true), -2);
        Due.is("STUCK", after(STUCK, 0, 100).rows(1, true), -2);
        Due.is("UNSAFE, but there is a TREE",
                after(LearnBounds.DOWNFALL, 0, 100).rows(0, false), 1);
        Sentences.by("Promise 21", "NONE for another what.");
        for (int what : new int[] {-1, 2, FAR[0], FAR[1], FAR[2]}) {
            Due.is("rows(" + what + ")", after(LearnBounds.LINE, 0, 100).rows(what, false), -1);
            Due.is("rows(" + what + ")", after(LearnBounds.LINE, 0, 100).rows(what, true), -1);
            Due.is("rows(" + what + ")", x.rows(what, false), -1);
            Due.is("rows(" + what + ")", x.rows(what, true), -1);
        }
    }

    private static void promise22() {
        Sentences.by("Promise 22", "The i-th TEST of ROW k (of SHORTER ones, too), "
                + "100 and it, if it holds, else 0 and it;");
        InvariantLearner x = after(LearnBounds.BETWEEN, 0, 100);
        Due.each("row", new int[] {x.row(0, 0, false), x.row(0, 1, false), x.row(1, 0, false)},
                100, 101, 0);
        Due.each("row (short)", new int[] {x.row(0, 0, true), x.row(1, 0, true)}, 101, 0);
        InvariantLearner all = after("var x 0 1;start x=0;bad x=1;" + "test 1=1;".repeat(15)
                + "test x<1;", 0, 100);
        Due.is("test 15", all.row(0, 0, false), 115);
        all = after("var x 0 1;start x=0;bad x=1;" + "test 1=1;".repeat(15) + "test x>0;", 0, 100);
        Due.is("test 15, as it doesn't hold", all.row(0, 0, true), 15);
        Sentences.by("Promise 22", "-2: it has not so many, there are not so many ROWS;");
        for (boolean isShort : new boolean[] {false, true}) {
            Due.is("not so many TESTS", x.row(0, 2, isShort), -2);
            Due.is("not so many TESTS", x.row(1, 1, isShort), -2);
            Due.is("not so many ROWS", x.row(2, 0, isShort), -2);
            Due.is("far", x.row(Integer.MAX_VALUE, 0, isShort), -2);
            Due.is("far", x.row(0, Integer.MAX_VALUE, isShort), -2);
        }
        Due.is("a TEST of the next ROW isn't one", x.row(0, 1, true), -2);
        Due.is("a ROW of no TESTS", after(LearnBounds.LINE, 0, 1).row(0, 0, false), -2);
        Due.is("no ROWS", after(LearnBounds.LINE, 0, 2).row(0, 0, false), -2);
        Due.is("no SHORTER ROWS", after("", 0, 1).row(0, 0, true), -2);
    }

    private static void promise22Refused() {
        Sentences.by("Promise 22", "NONE: no such ones, no TREE, not PROVED (short).");
        InvariantLearner x = after(LearnBounds.BETWEEN, 0, 100);
        for (boolean isShort : new boolean[] {false, true}) {
            Due.is("row(-1, 0)", x.row(-1, 0, isShort), -1);
            Due.is("row(0, -1)", x.row(0, -1, isShort), -1);
            Due.is("row(1, -1)", x.row(1, -1, isShort), -1);
            Due.is("far", x.row(Integer.MIN_VALUE, 0, isShort), -1);
            Due.is("far", x.row(0, Integer.MIN_VALUE, isShort), -1);
            Due.is("no TREE", new InvariantLearner().row(0, 0, isShort), -1);
        }
        Due.is("not PROVED yet", after(LearnBounds.LINE, 0, 3).row(0, 0, true), -1);
        Due.is("but there is a TREE", after(LearnBounds.LINE, 0, 3).row(0, 0, false), 100);
        Due.is("UNSAFE", after(LearnBounds.DOWNFALL, 0, 100).row(0, 0, true), -1);
        Due.is("STUCK", after(STUCK, 0, 100).row(0, 0, true), -1);
    }

    private static void promise23() {
        Sentences.by("Promise 23", "STATES that SHORTER ROWS hold;");
        Due.is("x<5", after(LearnBounds.LINE, 0, 100).shortMany(), 5);
        Due.is("0, 3 and 4", after(LearnBounds.BETWEEN, 0, 100).shortMany(), 3);
        Due.is("none", after("", 0, 1).shortMany(), 0);
        Due.is("all", after("var x 0 9;start x=0;", 0, 1).shortMany(), 10);
        Sentences.by("Promise 23", "-2: it isn't PROVED.");
        Due.is("no TREE", new InvariantLearner().shortMany(), -2);
        Due.is("not yet", after(LearnBounds.LINE, 0, 3).shortMany(), -2);
        Due.is("UNSAFE", after(LearnBounds.DOWNFALL, 0, 100).shortMany(), -2);
        Due.is("STUCK", after(STUCK, 0, 100).shortMany(), -2);
    }

    private static void promise24() {
        Sentences.by("Promise 24",
                "TOGETHER: TESTS that hold (which 1), that don't (0), as bits.");
        InvariantLearner x = Tape.with(LearnBounds.LINE);
        Due.is("together(1)", x.together(1), 2);
        Due.is("together(0)", x.together(0), 4);
        x = Tape.with("var x 0 1;start x=0;" + "test x<1;".repeat(8) + "test x>0;".repeat(8));
        Due.is("sixteen", x.together(1), 255);
        Due.is("sixteen", x.together(0), 65280);
        Sentences.by("Promise 24", "NONE: no such which.");
        for (int which : new int[] {-1, 2, FAR[0], FAR[1], FAR[2]}) {
            Due.is("together(" + which + ")", x.together(which), -1);
        }
    }

    private static void promise25() {
        Sentences.by("Promise 25",
                "Whether no BAD STATE is one in which all of these are so (1, 0).");
        Due.is("x<5", Tape.with(LearnBounds.LINE).togetherProves(), 1);
        Due.is("no TESTS", Tape.with(STUCK).togetherProves(), 0);
        Due.is("no TESTS, nothing BAD", Tape.with("start 1=1;").togetherProves(), 1);
        Due.is("no TESTS, no STARTS", Tape.with("bad 1=1;").togetherProves(), 0);
        Due.is("no STARTS: no STATE is so",
                Tape.with("var x 0 1;bad x=0;test x=0;").togetherProves(), 1);
        Due.is("one TEST as it holds",
                Tape.with("var x 0 2;start x=0;bad x=2;test x<2;").togetherProves(), 1);
        Due.is("one TEST as it doesn't",
                Tape.with("var x 0 2;start x=0;bad x=2;test x>1;").togetherProves(), 1);
        Due.is("a BAD one in which it is so",
                Tape.with("var x 0 2;start x=0;bad x=2;bad x=1;test x<2;").togetherProves(), 0);
        Due.is("none is left",
                Tape.with("var x 0 5;start x=0;start x=5;bad x=3;test x<1;test x>4;")
                        .togetherProves(), 0);
    }

    private static void promise26() {
        Sentences.by("Promise 26", "By how many STEPS k;");
        // From 1 to 20 by ones; 20 is bad: 19 states ahead of it.
        String chain = "var x 0 20;start x=0;step if x>0;set x=x+1;bad x=20;";
        Due.is("1", Tape.with(chain.replace("x>0", "x>19")).bySteps(), 1);
        Due.is("2", Tape.with(chain.replace("x>0", "x>18")).bySteps(), 2);
        Due.is("19", Tape.with(chain.replace("x>0", "x>1")).bySteps(), 19);
        Due.is("20", Tape.with(chain).bySteps(), 20);
        Due.is("of a new object", new InvariantLearner().bySteps(), 1);
        Sentences.by("Promise 26", "-2: by none to 20, a BAD STATE is COME TO.");
        Due.is("21", Tape.with("var x -1 20;start x<0;step if x>0-1;set x=x+1;bad x=20;")
                .bySteps(), -2);
        Due.is("COME TO", Tape.with("var x 0 2;start x=1;step if x=1;set x=2;bad x=2;")
                .bySteps(), -2);
    }

    private static String facts(InvariantLearner x, int care, int order, int without) {
        return x.ifLearned(care, order, without, 0) + " " + x.ifLearned(care, order, without, 1)
                + " " + x.ifLearned(care, order, without, 2) + " "
                + x.ifLearned(care, order, without, 3);
    }

    private static void promise27() {
        Sentences.by("Promise 27", "Learned from the beginning (no POINTS) by CARE, ORDER, "
                + "100 ROUNDS at most, but for a TEST (NONE: with all), "
                + "what 0 END, 1 ROUNDS, 2 POINTS, 3 NODES of the TREE (0 without one);");
        InvariantLearner x = Tape.with(LearnBounds.LINE);
        Due.same("with all", facts(x, 0, 0, -1), "1 4 4 3");
        // Without x<2 it is x<5 at once; without x<5 the points 2 and 7 can't be parted.
        Due.same("without x<2", facts(x, 0, 0, 0), "1 3 2 3");
        Due.same("without x<5", facts(x, 0, 0, 1), "3 4 4 3");
        Due.same("without x>7", facts(x, 0, 0, 2), "1 4 4 3");
        x.ways(1, 1);
        x.run(0, 9);
        x.learn(2);
        Due.same("from the beginning, whatever was", facts(x, 0, 0, -1), "1 4 4 3");
        x = Tape.with("var x 0 9;start x=1;start x=2;bad x=4;bad x=5;test x<2;test x<3;");
        for (int ways = 0; ways < 4; ways++) {
            InvariantLearner y = after("var x 0 9;start x=1;start x=2;bad x=4;bad x=5;"
                    + "test x<2;test x<3;", ways, 100);
            Due.same("as learned by ways " + ways, facts(x, ways / 2, ways % 2, -1),
                    y.ended() + " " + y.count(8) + " " + y.count(5) + " " + y.count(7));
        }
        Due.same("UNSAFE", facts(Tape.with(LearnBounds.DOWNFALL), 0, 0, -1), "2 5 3 3");
        Due.same("of a new object", facts(new InvariantLearner(), 0, 0, -1), "1 1 0 1");
        x = Tape.with(HardSystems.ALL[0].text());
        InvariantLearner y = after(HardSystems.ALL[0].text(), 1, 100);
        Due.is("no END in 100 ROUNDS", y.ended(), 0);
        Due.same("100 ROUNDS at most", facts(x, 0, 1, -1),
                "0 100 " + y.count(5) + " " + y.count(7));
        eachAsIfAlone(HardSystems.ALL[20].text());
    }

    /** But for a TEST it is learned as if that one were always so, by which it parts nothing. */
    private static void eachAsIfAlone(String text) {
        InvariantLearner x = Tape.with(text);
        String[] parts = text.split("test ");
        for (int ways = 0; ways < 4; ways++) {
            for (int without = -1; without < 16; without++) {
                StringBuilder other = new StringBuilder(parts[0]);
                for (int t = 0; t < 16; t++) {
                    other.append("test ").append(t == without ? "1=1;" : parts[t + 1]);
                }
                InvariantLearner y = after(other.toString(), ways, 100);
                Due.same("ways " + ways + " without " + without,
                        facts(x, ways / 2, ways % 2, without),
                        y.ended() + " " + y.count(8) + " " + y.count(5) + " " + y.count(7));
            }
        }
    }

    private static void promise27Refused() {
        Sentences.by("Promise 27", "NONE: no such ones.");
        InvariantLearner x = Tape.with(LearnBounds.LINE);
        for (int none : new int[] {-1, 2, FAR[0], FAR[1], FAR[2]}) {
            Due.is("no such CARE", x.ifLearned(none, 0, -1, 0), -1);
            Due.is("no such ORDER", x.ifLearned(0, none, -1, 0), -1);
        }
        for (int none : new int[] {-2, 3, 16, 17, FAR[0], FAR[1], FAR[2]}) {
            Due.is("no such TEST", x.ifLearned(0, 0, none, 0), -1);
        }
        for (int none : new int[] {-1, 4, FAR[0], FAR[1], FAR[2]}) {
            Due.is("no such what", x.ifLearned(0, 0, -1, none), -1);
        }
        Due.is("no TESTS", new InvariantLearner().ifLearned(0, 0, 0, 0), -1);
    }

    private static void promise28() {
        Sentences.by("Promise 28", "How many TESTS there are without which, each by itself, "
                + "it would not be PROVED so (by CARE, ORDER);");
        Due.is("x<5", Tape.with(LearnBounds.LINE).needed(0, 0), 1);
        Due.is("x<3 and x<1", Tape.with(LearnBounds.BETWEEN).needed(0, 0), 2);
        Due.is("two that are alike",
                Tape.with("var x 0 1;start x=0;bad x=1;test x<1;test x<1;").needed(0, 0), 0);
        Due.is("UNSAFE: all", Tape.with(LearnBounds.DOWNFALL).needed(1, 1), 2);
        Due.is("PROVED without any", Tape.with("start 1=1;test 1=1;").needed(0, 1), 0);
        Due.is("no TESTS", Tape.with(STUCK).needed(0, 0), 0);
        for (int ways = 0; ways < 4; ways++) {
            InvariantLearner all = Tape.with(STUCK + "test x<9;".repeat(16));
            Due.is("sixteen", all.needed(ways / 2, ways % 2), 16);
        }
        Sentences.by("Promise 28", "NONE: no such ones.");
        InvariantLearner x = Tape.with(LearnBounds.LINE);
        for (int none : new int[] {-1, 2, FAR[0], FAR[1], FAR[2]}) {
            Due.is("no such CARE", x.needed(none, 0), -1);
            Due.is("no such ORDER", x.needed(0, none), -1);
        }
    }

    private static void promise29() {
        Sentences.by("Promise 29", "0 VARIABLES, 1 C of start, 2 of bad, 3 STEPS, 4 TESTS, "
                + "5 POINTS, 6 PAIRS, 7 NODES of the TREE (0 without one), 8 ROUNDS so far, "
                + "9 CARE, 10 ORDER, 11 bytes of the TAPE.");
        InvariantLearner x = Tape.with("var x 0 9;var y 0 0;start x=0;start x=1;start x=1;"
                + "bad x=8;bad x=7;step if x<3;set x=x+1;step;"
                + "test x<2;test x<5;test x>7;test y=0;test 1=1;");
        int[] want = {2, 3, 2, 2, 5, 0, 0, 0, 0, 0, 0, 0};
        for (int what = 0; what < 12; what++) {
            Due.is("count(" + what + ")", x.count(what), want[what]);
        }
        x = after(LearnBounds.LINE, 0, 100);
        x.ways(0, 1);
        Tape.feed(x, "step;");
        int[] then = {1, 1, 1, 1, 3, 4, 1, 3, 4, 0, 1, 20};
        for (int what = 0; what < 12; what++) {
            Due.is("count(" + what + ")", x.count(what), then[what]);
        }
        x.ways(1, 0);
        Due.is("count(9)", x.count(9), 1);
        Due.is("count(10)", x.count(10), 0);
        Sentences.by("Promise 29", "NONE for another what.");
        for (int what : new int[] {-1, 12, FAR[0], FAR[1], FAR[2]}) {
            Due.is("count(" + what + ")", x.count(what), -1);
        }
    }
}
