/** The words on END 4: 200 POINTS, 300 PAIRS. */
final class FullBounds {
    /**
     * States 0 to 199, one to the next, STARTS 0 and 100; from 199 a step leads to 219. What is
     * beyond 239 is bad, and x<10 parts 0 to 199 from all others.
     */
    private static final String MANY = "var x 0 20;var y 0 19;start x=0 and y=0;start x=5 and y=0;"
            + "step if x<10 and y<19;set y=y+1;step if x<9 and y=19;set y=0;set x=x+1;"
            + "step if x=9 and y=19;set x=10;bad x>11;test x<10;test x<11;";

    /** Seeds that draw the first and the second of two STARTS: by 65536 they are 0 and 17747. */
    private static final int FIRST = 0;
    private static final int SECOND = 3;

    private FullBounds() {
    }

    static void all() {
        Sentences.by("Terms", "200 POINTS, or 300 PAIRS, where one more must come");
        points();
        pointsThatAreThere();
        pairs();
        Sentences.by("Terms", "(of a PAIR all that must come is asked ahead; "
                + "nothing comes then, the TREE stays as it was fitted).");
        pointsOfPairs();
        pairsOfPoints();
    }

    /** A system with so many POINTS, the first states, each told GOOD by a run. */
    private static InvariantLearner filled(String text, int points) {
        InvariantLearner x = Tape.with(text);
        for (int p = 0; p < points; p++) {
            Due.is("run", x.run(p < 100 ? FIRST : SECOND, 99), p);
            Due.is("state", x.point(p, 0), p);
        }
        return x;
    }

    private static void points() {
        InvariantLearner x = filled(MANY, 200);
        Due.is("a run that brings none", x.run(FIRST, 99), -2);
        Due.is("200 alone are no END", x.ended(), 0);
        Due.is("learn: a BAD one must come", x.learn(5), 1);
        Due.is("FULL", x.ended(), 4);
        Due.is("nothing came", x.count(5), 200);
        Due.same("the tree is the one that was fitted", Show.node(x, 0), "1 -2 -2 -2 200 0 420");
        Due.same("nothing brought", Show.brought(x), "0 -2 -2");
        Due.is("no rounds", x.learn(5), 0);
        Due.is("no runs", x.run(FIRST, 0), -1);
        Due.is("no trace", x.trace(0), -1);
        Due.is("not PROVED", x.rows(0, true), -2);
        x = filled(MANY, 199);
        Due.is("learn: a BAD one comes", x.learn(1), 1);
        Due.same("it is the 200th", Show.brought(x), "2 199 -2");
        Due.is("no END", x.ended(), 0);
    }

    /** With 200 POINTS one that is there may still be told, and be paired. */
    private static void pointsThatAreThere() {
        InvariantLearner x = filled(MANY.replace("bad x>11", "bad x>11;bad x=0 and y=5"), 200);
        Due.is("learn", x.learn(1), 1);
        Due.same("POINT 5 is told BAD, too", Show.brought(x), "2 5 -2");
        Due.is("no END", x.ended(), 0);
        Due.is("learn", x.learn(100), 1);
        Due.is("UNSAFE", x.ended(), 2);
        x = aside(0, 3);
        Due.same("one PAIR", Show.pairs(x), "2>3");
        fillAside(x);
        Due.is("learn", x.learn(1), 1);
        Due.same("a PAIR of POINTS that are there", Show.brought(x), "3 2 0");
        Due.is("no END", x.ended(), 0);
        Due.is("learn", x.learn(100), 1);
        Due.is("PROVED", x.ended(), 1);
        Due.is("points", x.count(5), 200);
    }

    /**
     * Beside the 200 states in a row, START (20, 0) leads to (20, 1), that to (20, 2) and to
     * (20, 3), which is bad. Twice x and y is 37 at most in the row, and 41 to 43 here.
     */
    private static InvariantLearner aside(int ways, int rounds) {
        return LearnBounds.after("var x 0 20;var y 0 19;start x=0 and y=0;start x=5 and y=0;"
                + "step if x<10 and y<19;set y=y+1;step if x<9 and y=19;set y=0;set x=x+1;"
                + "step if x=20 and y=1;set y=2;step if x=20 and y=1;set y=3;"
                + "bad x=20 and y=3;test 2*x+y<42;test 2*x+y<43;test 2*x+y<41;", ways, rounds);
    }

    private static void fillAside(InvariantLearner x) {
        for (int i = 0; i < 400 && x.count(5) < 200; i++) {
            x.run(i < 100 ? FIRST : SECOND, 99);
        }
        Due.is("points", x.count(5), 200);
    }

    private static void pairs() {
        // Hard system 0 is FULL in round 303 with 300 PAIRS, 11 is UNSAFE in that round with 300.
        InvariantLearner x = hard(0, 302);
        Due.is("300 alone are no END", x.ended(), 0);
        Due.is("PAIRS", x.count(6), 300);
        Due.is("learn", x.learn(100), 1);
        Due.is("FULL", x.ended(), 4);
        x = hard(11, 302);
        Due.is("300 alone are no END", x.ended(), 0);
        Due.is("PAIRS", x.count(6), 300);
        Due.is("learn", x.learn(100), 1);
        Due.is("UNSAFE", x.ended(), 2);
    }

    private static InvariantLearner hard(int number, int rounds) {
        HardSystems.Hard hard = HardSystems.ALL[number];
        return LearnBounds.after(hard.text(), hard.ways(), rounds);
    }

    private static void pointsOfPairs() {
        // 199 states and a bad one: then neither of the PAIR's POINTS finds a place.
        InvariantLearner x = filled(MANY, 199);
        x.learn(1);
        fullPair(x, 200);
        // 198: the first of the PAIR's POINTS would find a place, but both are asked ahead.
        x = filled(MANY, 198);
        x.learn(1);
        fullPair(x, 199);
        // 197: both come.
        x = filled(MANY, 197);
        Due.is("learn", x.learn(2), 2);
        Due.is("no END", x.ended(), 0);
        Due.same("a PAIR", Show.brought(x), "3 198 199");
        Due.is("points", x.count(5), 200);
        Due.is("PROVED in the end", x.learn(100), 1);
        Due.is("PROVED in the end", x.ended(), 1);
        oneOfBoth();
    }

    /** Of a PAIR the first or the second is a POINT already: one more must come. */
    private static void oneOfBoth() {
        InvariantLearner x = firstIsThere(199);
        Due.is("learn", x.learn(1), 1);
        Due.same("the second comes", Show.brought(x), "3 0 199");
        Due.is("no END", x.ended(), 0);
        x = firstIsThere(200);
        Due.is("learn", x.learn(1), 1);
        Due.is("FULL", x.ended(), 4);
        Due.is("no PAIR", x.count(6), 0);
        x = secondIsThere(199);
        Due.is("learn", x.learn(1), 1);
        Due.same("the first comes", Show.brought(x), "3 199 0");
        Due.is("no END", x.ended(), 0);
        x = secondIsThere(200);
        Due.is("learn", x.learn(1), 1);
        Due.is("FULL", x.ended(), 4);
        Due.is("no PAIR", x.count(6), 0);
    }

    /** 199, a START now, is POINT 0, the bad one POINT 1, then states from 0 on. */
    private static InvariantLearner firstIsThere(int points) {
        InvariantLearner x = Tape.with(
                MANY.replace("step if x=9", "start x=9 and y=19;step if x=9"));
        // By 65536 seeds 0, 5, 1 are 0, 18655, 16838: of three STARTS 0, 1, 2.
        Due.is("run", x.run(1, 0), 0);
        Due.is("state", x.point(0, 0), 199);
        Due.is("learn", x.learn(1), 1);
        for (int i = 0; i < 400 && x.count(5) < points; i++) {
            x.run(i < 100 ? 0 : 5, 99);
        }
        Due.is("points", x.count(5), points);
        return x;
    }

    /** The bad one, to which a step leads from 199, is POINT 0, then states from 0 on. */
    private static InvariantLearner secondIsThere(int points) {
        InvariantLearner x = Tape.with(MANY.replace("set x=10;", "set x=12;set y=0;"));
        Due.is("learn", x.learn(1), 1);
        Due.is("state", x.point(0, 0), 240);
        for (int i = 0; i < 400 && x.count(5) < points; i++) {
            x.run(i < 100 ? FIRST : SECOND, 99);
        }
        Due.is("points", x.count(5), points);
        return x;
    }

    private static void fullPair(InvariantLearner x, int points) {
        Due.is("learn", x.learn(5), 1);
        Due.is("FULL", x.ended(), 4);
        Due.is("no PAIR", x.count(6), 0);
        Due.is("no POINT", x.count(5), points);
        Due.is("219 is none", x.is(219, 5), -2);
        Due.same("the tree is the one that was fitted", Show.tree(x), "t0(+,-)");
        Due.is("with all POINTS", x.node(0, 4), points);
        Due.same("nothing brought", Show.brought(x), "0 -2 -2");
    }

    private static void pairsOfPoints() {
        InvariantLearner x = hard(0, 302);
        int had = x.node(0, 4);
        int points = x.count(5);
        Due.is("the latest PAIR brought a POINT", had < points ? 1 : 0, 1);
        x.learn(1);
        Due.is("FULL", x.ended(), 4);
        Due.is("no PAIR", x.count(6), 300);
        Due.is("no POINT", x.count(5), points);
        Due.is("the tree is the one that was fitted", x.node(0, 4), points);
        Due.same("nothing brought", Show.brought(x), "0 -2 -2");
    }

    static void promise19() {
        Sentences.by("Promise 19", "200 POINTS and one more must come.");
        InvariantLearner x = filled(MANY, 199);
        x.learn(1);
        Due.is("points", x.count(5), 200);
        String before = Show.points(x);
        Due.is("state 199 would come", x.run(SECOND, 99), -1);
        Due.same("nothing changes", Show.points(x), before);
        Due.is("no END", x.ended(), 0);
        Due.is("none must come", x.run(SECOND, 98), -2);
        Due.is("a run of one fewer", filled(MANY, 199).run(SECOND, 99), 199);
        // START (15, 0), then (15, 1), (15, 2), which come as a PAIR; (15, 3) is no POINT.
        x = LearnBounds.after("var x 0 20;var y 0 19;start x=0 and y=0;start x=5 and y=0;"
                + "start x=15 and y=0;step if x<10 and y<19;set y=y+1;step if x<9 and y=19;set y=0;"
                + "set x=x+1;step if x=15 and y<3;set y=y+1;bad x=20 and y>4;test y<2;test x<16;",
                1, 3);
        Due.same("points", Show.points(x), "419:2:2 300:1:1 301:0:0 302:0:0");
        // By 65536 seeds 0, 5, 1 are 0, 18655, 16838: of three STARTS 0, 1, 2.
        for (int i = 0; i < 400 && x.count(5) < 200; i++) {
            x.run(i < 100 ? 0 : 5, 99);
        }
        Due.is("points", x.count(5), 200);
        Due.is("a POINT that is there is told GOOD", x.run(1, 9), 2);
        Due.is("and the next one", x.run(1, 9), 3);
        Due.is("but no other one", x.run(1, 9), -1);
        Due.is("points", x.count(5), 200);
    }
}
