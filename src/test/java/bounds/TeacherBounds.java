/** The words on the TEACHER, ROUNDS, ENDS and RUNS, and promises 11 to 20. */
final class TeacherBounds {
    private static final int[] FAR = {Integer.MIN_VALUE, -1000000, Integer.MAX_VALUE};

    private TeacherBounds() {
    }

    static void all() {
        askedStarts();
        askedBad();
        askedPairs();
        pointsStay();
        unsafe();
        stuck();
        ends();
        runs();
        runsTell();
        drawn();
        promise11();
        promise12();
        promise13And14();
        promise15();
        promise16();
        promise17();
        promise18();
        promise19();
        promise19Refused();
        promise20();
    }

    private static InvariantLearner after(String text, int ways, int rounds) {
        return LearnBounds.after(text, ways, rounds);
    }

    /** The STATE of the POINT that the latest ROUND brought, or of its second one. */
    private static int broughtState(InvariantLearner x, int what) {
        return x.point(x.brought(what), 0);
    }

    private static void askedStarts() {
        Sentences.by("Terms", "ASKED: the TEACHER by ORDER 0 (the first), 1 (the last): "
                + "of a TREE that is fitted: is there a START that it doesn't hold: "
                + "that one is a POINT, TOLD GOOD;");
        String text = "var x 0 9;start x>1 and x<5;bad x=7;test x<5;";
        Due.same("the first", Show.points(after(text, 2, 1)), "2:1:1");
        Due.same("the last", Show.points(after(text, 3, 1)), "4:1:1");
        Due.same("brought", Show.brought(after(text, 3, 1)), "1 0 -2");
        // x<5 doesn't hold START 9, but holds BAD 1: the START comes ahead of it.
        InvariantLearner x = after("var x 0 9;start x=3;start x=9;bad x=1;bad x=7;test x<5;", 1, 1);
        x.ways(0, 0);
        x.learn(2);
        Due.same("tree", Show.tree(x), "t0(+,-)");
        Due.same("points", Show.points(x), "7:2:2 3:1:1 9:1:1");
    }

    private static void askedBad() {
        Sentences.by("Terms", "else a BAD one that it holds: a POINT, TOLD BAD;");
        String text = "var x 0 9;start x=0;bad x>1 and x<5;test x<1;";
        Due.same("the first", Show.points(after(text, 0, 1)), "2:2:2");
        Due.same("the last", Show.points(after(text, 1, 1)), "4:2:2");
        Due.same("brought", Show.brought(after(text, 1, 1)), "2 0 -2");
        // x<5 holds BAD 1, and a STEP leads from 0 to 9, which it doesn't hold.
        InvariantLearner x = after("var x 0 9;start x=3;bad x=1;bad x=7;step if x=0;set x=9;"
                + "test x<5;", 1, 3);
        Due.same("tree", Show.tree(x), "t0(+,-)");
        Due.same("ahead of a PAIR", Show.points(x), "7:2:2 3:1:1 1:2:2");
    }

    private static void askedPairs() {
        Sentences.by("Terms", "else a STATE that it holds and a STEP of that one to one that it "
                + "doesn't hold (by ORDER the first, the last such STATE, of it the first STEP): "
                + "both are POINTS, a PAIR;");
        // x>2 is left from 3 by both steps, from 4 by the second one, from 5 by none.
        String text = "var x 0 5;start x=4;bad x=0;step;set x=x-1;step;set x=x-2;test x>2;";
        InvariantLearner x = after(text, 0, 3);
        Due.same("brought", Show.brought(x), "3 2 3");
        Due.each("the first such STATE, its first STEP",
                new int[] {broughtState(x, 1), broughtState(x, 2)}, 3, 2);
        x = after(text, 1, 3);
        Due.same("brought", Show.brought(x), "3 1 2");
        Due.each("the last such STATE", new int[] {broughtState(x, 1), broughtState(x, 2)}, 4, 2);
        Due.same("both are POINTS", Show.points(x), "0:2:2 4:1:1 2:0:1");
        Due.same("a PAIR", Show.pairs(x), "1>2");
        x = after(text.replace("start x=4", "start x=3"), 1, 3);
        Due.each("of 4 the second STEP, as the first doesn't leave",
                new int[] {broughtState(x, 1), broughtState(x, 2)}, 4, 2);
        x = after("var x 0 5;start x=5;bad x=0;step;set x=x-4;step;set x=x-3;test x>2;", 1, 3);
        Due.each("of the last one the first STEP",
                new int[] {broughtState(x, 1), broughtState(x, 2)}, 5, 1);
        x = after("var x 0 2;start x=2;step;set x=x-1;bad x=0;test x>1;test x>0;", 0, 4);
        Due.each("to state 0", new int[] {broughtState(x, 1), broughtState(x, 2)}, 1, 0);
        Sentences.by("Terms", "else it is PROVED.");
        Due.is("a step that stays within", after(LearnBounds.LINE, 0, 100).ended(), 1);
        Due.is("without starts, bad ones, steps", after("", 0, 1).ended(), 1);
        Due.is("wary, too", after("", 2, 1).ended(), 1);
        Due.is("a state that isn't held may lead anywhere",
                after("var x 0 3;start x=0;bad x=3;step if x=2;set x=0;step if x=2;set x=3;"
                        + "test x<1;", 0, 100).ended(), 1);
    }

    private static void pointsStay() {
        Sentences.by("Terms",
                "(A STATE that is a POINT already stays that one, and may be TOLD both.)");
        InvariantLearner x = after("start 1=1;bad 1=1;", 0, 2);
        Due.same("told both", Show.points(x), "0:3:3");
        Due.same("brought", Show.brought(x), "1 0 -2");
        x = after("start 1=1;bad 1=1;", 2, 2);
        Due.same("wary: first a START, then BAD", Show.brought(x), "2 0 -2");
        Due.same("told both", Show.points(x), "0:3:3");
        x = after(LearnBounds.DOWNFALL, 0, 4);
        Due.same("in PAIRS, too", Show.pairs(x), "1>2 2>0");
        Due.same("points", Show.points(x), "2:2:3 0:1:3 1:0:3");
    }

    private static void unsafe() {
        Sentences.by("Terms", "A ROUND: is there a POINT that is TOLD BAD and is GOOD, as it was "
                + "TOLD so, or as it follows by PAIRS: it is UNSAFE (the TREE ahead of it stays);");
        InvariantLearner x = after("start 1=1;bad 1=1;", 0, 2);
        Due.is("none yet", x.ended(), 0);
        Due.is("the next round", x.learn(100), 1);
        Due.is("told so, and not STUCK", x.ended(), 2);
        Due.same("the tree stays", Show.tree(x), "-");
        x = after(LearnBounds.DOWNFALL, 0, 4);
        Due.is("none yet", x.ended(), 0);
        Due.is("the next round", x.learn(100), 1);
        Due.is("by pairs", x.ended(), 2);
        Due.same("the tree stays", Show.tree(x), "t1(+,-)");
        Due.is("with the points it had", x.node(0, 4), 3);
        Due.same("nothing brought", Show.brought(x), "0 -2 -2");
        // 2 is both by PAIRS from 0 to 3, but only 3 is TOLD BAD: it is the one that decides.
        x = after("var x 0 3;start x=0;step;set x=x+1;bad x=3;test x<1;test x<2;test x<3;", 0, 100);
        Due.is("by three pairs", x.ended(), 2);
        Due.is("rounds", x.count(8), 6);
    }

    private static void stuck() {
        Sentences.by("Terms", "else it is FITTED (is it STUCK, it ends; the TREE ahead of it "
                + "stays), then ASKED.");
        InvariantLearner x = after("var x 0 1;start x=0;bad x=1;test x<5;", 0, 100);
        Due.is("END", x.ended(), 3);
        Due.is("rounds", x.count(8), 3);
        Due.same("the tree stays", Show.node(x, 0), "0 -2 -2 -2 1 0 2");
        Due.is("nodes", x.count(7), 1);
        Due.same("nothing brought", Show.brought(x), "0 -2 -2");
        // In the fourth round x<1 parts 0 from 1 and 6, which no test parts.
        x = after("var x 0 9;start x<4;bad x>5;test x<8;test x<1;", 0, 100);
        Due.is("END", x.ended(), 3);
        Due.is("rounds", x.count(8), 4);
        Due.same("the tree stays", Show.tree(x), "t1(+,-)");
        Due.same("with the points it had", Show.node(x, 0), "2 1 1 2 2 0 10");
        Due.same("points", Show.points(x), "6:2:2 0:1:1 1:1:1");
    }

    private static void ends() {
        Sentences.by("Terms", "END: 0 none yet, 1 PROVED, 2 UNSAFE, 3 STUCK, 4 FULL:");
        Due.is("none yet", after(LearnBounds.LINE, 0, 3).ended(), 0);
        Due.is("PROVED", after(LearnBounds.LINE, 0, 4).ended(), 1);
        Due.is("UNSAFE", after(LearnBounds.DOWNFALL, 0, 5).ended(), 2);
        Due.is("STUCK", after("var x 0 1;start x=0;bad x=1;", 0, 3).ended(), 3);
        FullBounds.all();
        Sentences.by("Terms", "Behind an END there are no ROUNDS.");
        for (String text : new String[] {LearnBounds.LINE, LearnBounds.DOWNFALL,
            "var x 0 1;start x=0;bad x=1;"}) {
            InvariantLearner x = after(text, 0, 100);
            String before = Whole.of(x);
            Due.is("learn(1)", x.learn(1), 0);
            Due.is("learn(100)", x.learn(100), 0);
            Due.same("nothing changes", Whole.of(x), before);
            x.ways(1, 1);
            Due.is("by other ways neither", x.learn(100), 0);
        }
    }

    private static void runs() {
        Sentences.by("Terms", "A RUN from a seed, n STEPS: DRAWN of the number of STARTS: "
                + "that one of them;");
        // Seed 1: 1103527590, by 65536 it is 16838, of 5 it is 3. The greatest: 15929, it is 4.
        InvariantLearner x = Tape.with("var x 0 9;start x>3 and x<9;");
        x.run(1, 0);
        x.run(Integer.MAX_VALUE, 0);
        x.run(0, 0);
        Due.same("starts 3, 4, 0 of 4 to 8", Show.points(x), "7:1:1 8:1:1 4:1:1");
        Sentences.by("Terms", "then n times, as long as a STEP can be taken: "
                + "DRAWN of how many can be: that one of them, by numbers.");
        // Then seed 1 draws 5758, of 3 it is 1; seed 0 draws 21468, of 3 it is 0.
        String text = "var x 0 9;start x=0;step if x>8;step if x=0;set x=3;step if x=0;set x=5;"
                + "step;set x=x-20;step if x=0;set x=7;";
        x = Tape.with(text);
        Due.is("the start", x.run(1, 0), 0);
        Due.is("no step", x.run(1, 0), -2);
        Due.is("one step", x.run(1, 1), 1);
        Due.is("the second that can be taken", x.point(1, 0), 5);
        Due.is("none can be taken then", x.run(1, 100), -2);
        Due.is("one step", x.run(0, 1), 2);
        Due.is("the first that can be taken", x.point(2, 0), 3);
        x = Tape.with("var x 0 2;start x=2;step;set x=0;");
        x.run(0, 0);
        x.run(0, 9);
        Due.same("to state 0", Show.points(x), "2:1:1 0:1:1");
        x = Tape.with(LearnBounds.LINE);
        for (int n = 0; n < 4; n++) {
            Due.is("n " + n, x.run(0, n), n);
            Due.is("n " + n + ", no further", x.run(0, n), -2);
        }
        Due.is("no further step", x.run(0, 100), -2);
        // 121 states in a row: 100 steps come to the one with number 100.
        x = Tape.with("var x 0 10;var y 0 10;start x=0 and y=0;step if y<10;set y=y+1;"
                + "step if y=10;set y=0;set x=x+1;");
        for (int s = 0; s <= 100; s++) {
            Due.is("state " + s, x.run(s, 100), s);
        }
        Due.is("no further", x.run(7, 100), -2);
        Due.is("the last one", x.point(100, 0), 100);
    }

    private static void runsTell() {
        Sentences.by("Terms", "Each STATE on it is COME TO: the first one that isn't a POINT "
                + "TOLD GOOD becomes one (nothing else).");
        InvariantLearner x = after(LearnBounds.LINE, 0, 3);
        Due.is("a POINT that isn't told", x.run(0, 3), 2);
        Due.same("it alone", Show.points(x), "7:2:2 0:1:1 1:1:1 2:0:1");
        Due.is("one that is GOOD, but not told so", x.run(0, 3), 3);
        Due.is("one that is none", x.run(0, 3), 4);
        Due.same("no more", Show.points(x), "7:2:2 0:1:1 1:1:1 2:1:1 3:1:1");
        Due.is("all are", x.run(0, 3), -2);
        x = after("start 1=1;bad 1=1;", 0, 1);
        Due.is("one that is TOLD BAD", x.run(5, 5), 0);
        Due.same("both", Show.points(x), "0:3:3");
        Sentences.by("Terms",
                "(Also POINTS that a RUN told are TOLD; a RUN is no ROUND.)");
        Due.is("TOLD", x.point(0, 2), 3);
        Due.is("rounds", x.count(8), 1);
        Due.same("brought", Show.brought(x), "2 0 -2");
        Due.same("tree", Show.tree(x), "+");
        Due.is("END", x.ended(), 0);
        x.learn(1);
        Due.is("UNSAFE by it", x.ended(), 2);
    }

    private static void drawn() {
        Sentences.by("Terms", "DRAWN: x becomes x times 1103515245 and 12345, of that what is "
                + "left by 2147483648; by 65536, downwards, modulo what is said; "
                + "the first x is the seed.");
        String all = "var a 1 20;var b 1 15;var c 1 2;start 1=1;";
        int[] seeds = {0, 1, 2, 3, 4, 5, Integer.MAX_VALUE};
        // By 65536: 0, 16838, 908, 17747, 1817, 18655, 15929.
        int[] states = {0, 38, 308, 347, 17, 55, 329};
        for (int i = 0; i < seeds.length; i++) {
            InvariantLearner x = Tape.with(all);
            x.run(seeds[i], 0);
            Due.is("seed " + seeds[i], x.point(0, 0), states[i]);
        }
        // A step to each of eight states: seed 0 draws 0, then 21468; seed 1 16838, then 5758.
        StringBuilder text = new StringBuilder("var x 0 8;start x=8;");
        for (int k = 0; k < 8; k++) {
            text.append("step;set x=").append(k).append(";");
        }
        InvariantLearner x = Tape.with(text.toString());
        x.run(0, 1);
        x.run(0, 1);
        x.run(1, 1);
        Due.same("21468 of 8 is 4, 5758 of 8 is 6", Show.points(x), "8:1:1 4:1:1 6:1:1");
    }

    private static void promise11() {
        Sentences.by("Promise 11", "CARE (0, 1) and ORDER (0, 1) become these: "
                + "2 times CARE and ORDER, as they were;");
        InvariantLearner x = Tape.with(LearnBounds.LINE);
        int before = 0;
        for (int ways : new int[] {1, 2, 3, 3, 0, 2, 0, 3, 1, 0}) {
            Due.is("ways", x.ways(ways / 2, ways % 2), before);
            Due.is("CARE", x.count(9), ways / 2);
            Due.is("ORDER", x.count(10), ways % 2);
            before = ways;
        }
        x.learn(100);
        Due.is("behind an END, too", x.ways(1, 1), 0);
        Due.is("behind an END, too", x.ways(0, 0), 3);
        x = Tape.with(LearnBounds.LINE);
        x.learn(1);
        x.ways(1, 0);
        x.learn(1);
        Due.same("between rounds: wary", Show.tree(x), "-");
        Sentences.by("Promise 11", "NONE: no such ones.");
        x.ways(1, 0);
        int[][] none = {{2, 0}, {-1, 0}, {0, 2}, {0, -1}, {2, 2}, {-1, -1}, {FAR[0], 0},
            {0, FAR[0]}, {FAR[2], 0}, {0, FAR[2]}};
        for (int[] one : none) {
            Due.is("ways(" + one[0] + ", " + one[1] + ")", x.ways(one[0], one[1]), -1);
            Due.is("as they were", 2 * x.count(9) + x.count(10), 2);
        }
    }

    private static void promise12() {
        Sentences.by("Promise 12",
                "n ROUNDS, 1 .. 100: how many were done (the one that comes to an END is one);");
        InvariantLearner x = Tape.with(LearnBounds.LINE);
        Due.is("learn(1)", x.learn(1), 1);
        Due.is("learn(2)", x.learn(2), 2);
        Due.is("no END yet", x.ended(), 0);
        Due.is("learn(1)", x.learn(1), 1);
        Due.is("END", x.ended(), 1);
        Due.is("behind it", x.learn(1), 0);
        Due.is("learn(4)", Tape.with(LearnBounds.LINE).learn(4), 4);
        Due.is("learn(100)", Tape.with(LearnBounds.LINE).learn(100), 4);
        x = Tape.with(HardSystems.ALL[0].text());
        x.ways(0, 1);
        Due.is("learn(99)", x.learn(99), 99);
        Due.is("learn(100)", x.learn(100), 100);
        Due.is("rounds so far", x.count(8), 199);
        Sentences.by("Promise 12", "NONE: no such n.");
        x = Tape.with(LearnBounds.LINE);
        for (int n : new int[] {0, -1, 101, FAR[0], FAR[1], FAR[2]}) {
            Due.is("learn(" + n + ")", x.learn(n), -1);
        }
        Due.is("no rounds", x.count(8), 0);
        x.learn(100);
        Due.is("behind an END, too", x.learn(0), -1);
        Due.is("behind an END, too", x.learn(101), -1);
    }

    private static void promise13And14() {
        Sentences.by("Promise 13", "END.");
        Due.is("of a new object", new InvariantLearner().ended(), 0);
        Due.is("PROVED", after(LearnBounds.LINE, 0, 100).ended(), 1);
        Sentences.by("Promise 14", "What the latest ROUND brought, what 0: 0 none (no ROUND yet, "
                + "or an END), 1 a START, 2 a BAD one, 3 a PAIR; 1 the POINT (of a PAIR the first; "
                + "-2), 2 the second one (-2).");
        InvariantLearner x = Tape.with(LearnBounds.LINE);
        String[] want = {"2 0 -2", "1 1 -2", "3 2 3", "0 -2 -2", "0 -2 -2"};
        Due.same("no ROUND yet", Show.brought(x), "0 -2 -2");
        for (String brought : want) {
            x.learn(1);
            Due.same("brought", Show.brought(x), brought);
        }
        Due.same("a PAIR of one that was there", Show.brought(after(LearnBounds.DOWNFALL, 0, 4)),
                "3 2 0");
        x = after(LearnBounds.LINE, 0, 3);
        x.run(0, 3);
        x.learn(0);
        Due.same("behind a RUN and a refused call", Show.brought(x), "3 2 3");
        Sentences.by("Promise 14", "NONE for another what.");
        for (int what : new int[] {-1, 3, FAR[0], FAR[1], FAR[2]}) {
            Due.is("brought(" + what + ")", x.brought(what), -1);
            Due.is("ahead of any", new InvariantLearner().brought(what), -1);
        }
    }

    private static void promise15() {
        Sentences.by("Promise 15", "Of a POINT, what 0 its STATE, 1 its LABEL by TOLD ones and "
                + "PAIRS, 2 its TOLD label, 3, 4 PAIRS of which it is the first, the second;");
        InvariantLearner x = after(LearnBounds.DOWNFALL, 0, 4);
        int[][] want = {{2, 3, 2, 0, 1}, {0, 3, 1, 1, 0}, {1, 3, 0, 1, 1}};
        for (int p = 0; p < 3; p++) {
            for (int what = 0; what < 5; what++) {
                Due.is("point(" + p + ", " + what + ")", x.point(p, what), want[p][what]);
            }
        }
        x = after("var x 0 3;start x=0;bad x=3;step if x=1;set x=2;step if x=1;set x=3;"
                + "test x<2;test x<3;test x<1;", 0, 4);
        Due.is("the first of two", x.point(2, 3), 2);
        Due.is("the second of none", x.point(2, 4), 0);
        Sentences.by("Promise 15", "NONE: no such ones.");
        Due.is("point(4, 0)", x.point(4, 0), -1);
        Due.is("point(-1, 0)", x.point(-1, 0), -1);
        Due.is("point(0, 5)", x.point(0, 5), -1);
        Due.is("point(0, -1)", x.point(0, -1), -1);
        Due.is("without points", new InvariantLearner().point(0, 0), -1);
        for (int far : FAR) {
            Due.is("point(" + far + ", 0)", x.point(far, 0), -1);
            Due.is("point(0, " + far + ")", x.point(0, far), -1);
        }
    }

    private static void promise16() {
        Sentences.by("Promise 16", "The first POINT (what 0), the second (1) of a PAIR;");
        InvariantLearner x = after(LearnBounds.DOWNFALL, 0, 4);
        Due.each("pairs", new int[] {x.pair(0, 0), x.pair(0, 1), x.pair(1, 0), x.pair(1, 1)},
                1, 2, 2, 0);
        Sentences.by("Promise 16", "NONE: no such ones.");
        Due.is("pair(2, 0)", x.pair(2, 0), -1);
        Due.is("pair(-1, 0)", x.pair(-1, 0), -1);
        Due.is("pair(0, 2)", x.pair(0, 2), -1);
        Due.is("pair(0, -1)", x.pair(0, -1), -1);
        Due.is("without pairs", new InvariantLearner().pair(0, 0), -1);
        for (int far : FAR) {
            Due.is("pair(" + far + ", 0)", x.pair(far, 0), -1);
            Due.is("pair(0, " + far + ")", x.pair(0, far), -1);
        }
    }

    private static void promise17() {
        Sentences.by("Promise 17", "Of a NODE of the TREE, what 0 which (0 a leaf that is not so, "
                + "1 one that is so, 2 parted), 1 its TEST (-2 of a leaf), 2, 3 the NODES where it "
                + "holds, where it doesn't (-2), 4 POINTS it had, 5 its depth (0 the root), "
                + "6 STATES that come to it;");
        InvariantLearner x = after(LearnBounds.BETWEEN, 0, 4);
        String[] want = {"2 0 1 4 3 0 5", "2 1 2 3 2 1 3", "1 -2 -2 -2 1 2 1", "0 -2 -2 -2 1 2 2",
            "1 -2 -2 -2 1 1 2"};
        for (int n = 0; n < 5; n++) {
            Due.same("node " + n, Show.node(x, n), want[n]);
        }
        x = after(LearnBounds.LINE, 0, 1);
        x.run(0, 0);
        Due.is("POINTS it had, not those that came", x.node(0, 4), 0);
        Sentences.by("Promise 17", "NONE: no such ones.");
        Due.is("node(1, 0)", x.node(1, 0), -1);
        Due.is("node(-1, 0)", x.node(-1, 0), -1);
        Due.is("node(0, 7)", x.node(0, 7), -1);
        Due.is("node(0, -1)", x.node(0, -1), -1);
        Due.is("without a tree", new InvariantLearner().node(0, 0), -1);
        for (int far : FAR) {
            Due.is("node(" + far + ", 0)", x.node(far, 0), -1);
            Due.is("node(0, " + far + ")", x.node(0, far), -1);
        }
    }

    private static void promise18() {
        Sentences.by("Promise 18",
                "COST of a TEST at the root by TOLD ones and PAIRS as they are;");
        InvariantLearner x = after(LearnBounds.LINE, 0, 3);
        Due.is("x<2", x.cost(0), 1);
        x.run(0, 3);
        Due.is("with a POINT told GOOD", x.cost(0), 5);
        Due.is("x<5", x.cost(1), 0);
        Sentences.by("Promise 18", "-2: it holds for all POINTS, for none;");
        Due.is("x>7 holds for none", x.cost(2), -2);
        Due.is("x<3 holds for all", after(LearnBounds.BETWEEN, 0, 2).cost(0), -2);
        Due.is("of one POINT for all", after(LearnBounds.BETWEEN, 0, 1).cost(0), -2);
        Due.is("of one POINT for none", after(LearnBounds.BETWEEN, 0, 1).cost(1), -2);
        Due.is("without POINTS", Tape.with(LearnBounds.LINE).cost(2), -2);
        Sentences.by("Promise 18", "NONE: no such TEST.");
        for (int test : new int[] {3, -1, 16, 31, 32, FAR[0], FAR[1], FAR[2]}) {
            Due.is("cost(" + test + ")", x.cost(test), -1);
            Due.is("without POINTS", Tape.with(LearnBounds.LINE).cost(test), -1);
        }
    }

    private static void promise19() {
        Sentences.by("Promise 19", "A RUN from a seed 0 .. 2147483647, n 0 .. 100: "
                + "the POINT that came; -2: none;");
        InvariantLearner x = Tape.with("var x 0 9;start x=0;step if x<3;set x=x+1;");
        Due.is("run(0, 0)", x.run(0, 0), 0);
        Due.is("run(0, 0)", x.run(0, 0), -2);
        Due.is("run(2147483647, 100)", x.run(Integer.MAX_VALUE, 100), 1);
        Due.is("run(2147483647, 1)", x.run(Integer.MAX_VALUE, 1), -2);
        Due.is("run(2147483646, 100)", x.run(Integer.MAX_VALUE - 1, 100), 2);
        Due.is("run(0, 3)", x.run(0, 3), 3);
        Due.is("run(0, 100)", x.run(0, 100), -2);
    }

    private static void promise19Refused() {
        Sentences.by("Promise 19", "NONE: no such ones, no STARTS, there is an END,");
        InvariantLearner x = Tape.with(LearnBounds.LINE);
        int[][] none = {{-1, 0}, {0, -1}, {0, 101}, {-1, -1}, {FAR[0], 5}, {FAR[1], 5},
            {5, FAR[0]}, {5, FAR[1]}, {5, FAR[2]}};
        for (int[] one : none) {
            Due.is("run(" + one[0] + ", " + one[1] + ")", x.run(one[0], one[1]), -1);
        }
        Due.is("no points", x.count(5), 0);
        Due.is("no STARTS", Tape.with("var x 0 9;start x>9;step;").run(0, 0), -1);
        Due.is("of a new object", new InvariantLearner().run(0, 0), -1);
        for (String text : new String[] {LearnBounds.LINE, LearnBounds.DOWNFALL,
            "var x 0 1;start x=0;bad x=1;"}) {
            x = after(text, 0, 100);
            String before = Whole.of(x);
            Due.is("behind an END", x.run(0, 0), -1);
            Due.is("behind an END", x.run(0, 100), -1);
            Due.same("nothing changes", Whole.of(x), before);
        }
        FullBounds.promise19();
    }

    private static void leastRows() {
        Due.same("of four PAIRS", Show.trace(after("var x 0 4;start x=0;step;set x=x+1;bad x=4;"
                + "test x<1;test x<2;test x<3;test x<4;", 0, 7)), "1 2 3 4 0");
        // 3 leads to 2, 1, 0, of which 1 and 0 are bad; both are told so, then runs tell all.
        InvariantLearner x = after("var x 0 3;start x=3;bad x<2;step;set x=x-1;test x=0;", 0, 3);
        Due.same("points", Show.points(x), "0:2:2 3:1:1 1:2:2");
        for (int i = 0; i < 3; i++) {
            x.run(0, 9);
        }
        Due.same("two are told both", Show.points(x), "0:3:3 3:1:1 1:3:3 2:1:1");
        x.learn(1);
        Due.same("of two ways of no PAIR the least", Show.trace(x), "0");
        // a (0, 0) leads to c (0, 1), that to d (1, 1) and e (2, 0), both to b (3, 1): it is bad.
        // By x<1, x<2, x<3 come c d, c e, d b; by y<1, as the last such state is e, e b; then a c.
        x = after("var x 0 3;var y 0 1;start x=0 and y=0;bad x=3 and y=1;step if x+y<1;set y=1;"
                + "step if x=0 and y=1;set x=1;step if x=0 and y=1;set x=2;set y=0;"
                + "step if x=1 and y=1;set x=3;step if x=2 and y=0;set x=3;set y=1;"
                + "test x<1;test x<2;test x<3;test y<1;", 0, 5);
        x.ways(0, 1);
        x.learn(100);
        Due.same("points b, a, c, d, e", Show.points(x), "7:2:3 0:1:3 1:0:3 3:0:3 4:0:3");
        Due.same("pairs", Show.pairs(x), "2>3 2>4 3>0 4>0 1>2");
        Due.same("of two ways of three PAIRS the least", Show.trace(x), "1 2 3 0");
        // Without the step from d to b the way must go by e.
        x = after("var x 0 3;var y 0 1;start x=0 and y=0;bad x=3 and y=1;step if x+y<1;set y=1;"
                + "step if x=0 and y=1;set x=1;step if x=0 and y=1;set x=2;set y=0;"
                + "step if x=2 and y=0;set x=3;set y=1;test x<1;test x<2;test x<3;test y<1;", 0, 7);
        Due.same("points b, a, c, d, e", Show.points(x), "7:2:3 0:1:3 1:0:3 3:0:1 4:0:3");
        Due.same("pairs", Show.pairs(x), "2>3 2>4 4>0 1>2");
        Due.same("not by d, though it is less", Show.trace(x), "1 2 4 0");
    }

    private static void promise20() {
        Sentences.by("Promise 20", "A way from a START to a BAD one, where it is UNSAFE: "
                + "the fewest PAIRS from a POINT TOLD GOOD to one TOLD BAD, "
                + "of like ones the least row of POINTS: its i-th POINT;");
        Due.same("of two PAIRS", Show.trace(after(LearnBounds.DOWNFALL, 0, 5)), "1 2 0");
        Due.same("of none", Show.trace(after("start 1=1;bad 1=1;", 0, 3)), "0");
        // A run tells 1 GOOD ahead of the rounds: the way from there is shorter.
        InvariantLearner x = Tape.with(LearnBounds.DOWNFALL);
        x.run(0, 0);
        x.run(0, 1);
        x.learn(100);
        Due.same("points", Show.points(x), "0:1:1 1:1:3 2:2:3");
        Due.same("of one PAIR", Show.trace(x), "1 2");
        leastRows();
        Sentences.by("Promise 20", "-2: it has not so many;");
        Due.is("trace(2)", x.trace(2), -2);
        Due.is("trace(3)", x.trace(3), -2);
        Due.is("far", x.trace(Integer.MAX_VALUE), -2);
        Due.is("of none", after("start 1=1;bad 1=1;", 0, 3).trace(1), -2);
        Sentences.by("Promise 20", "NONE: it isn't UNSAFE, i is below 0.");
        Due.is("trace(-1)", x.trace(-1), -1);
        Due.is("far below", x.trace(Integer.MIN_VALUE), -1);
        for (int i : new int[] {0, 1, -1, 100}) {
            Due.is("not yet", after(LearnBounds.DOWNFALL, 0, 4).trace(i), -1);
            Due.is("PROVED", after(LearnBounds.LINE, 0, 100).trace(i), -1);
            Due.is("STUCK", after("var x 0 1;start x=0;bad x=1;", 0, 100).trace(i), -1);
            Due.is("of a new object", new InvariantLearner().trace(i), -1);
        }
    }
}
