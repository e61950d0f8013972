/** The words on STATES and STEPS, and promises 5 to 10. */
final class StateBounds {
    private static final int[] FAR = {Integer.MIN_VALUE, -1000000, Integer.MAX_VALUE};

    /** Ten states; 0 leads on by ones to 3; bold learning ends with x<5, PROVED. */
    private static final String LINE = "var x 0 9;start x=0;step if x<3;set x=x+1;bad x=7;"
            + "test x<2;test x<5;test x>7;";

    private StateBounds() {
    }

    static void all() {
        numbers();
        startsAndBad();
        steps();
        stepsBeyondTheRange();
        comeTo();
        doomed();
        promise5();
        promise6();
        promise7();
        promise7Learned();
        promise8();
        promise9();
        promise10();
    }

    /** What is() answers for all STATES, a sign for each. */
    private static String signs(InvariantLearner x, int what) {
        StringBuilder all = new StringBuilder();
        for (int s = 0; s < x.many(0); s++) {
            all.append(x.is(s, what));
        }
        return all.toString();
    }

    private static void numbers() {
        Sentences.by("Terms", "STATES are numbered from 0 on: by VARIABLE 0, "
                + "of alike ones by 1, by 2, from the LEAST on");
        InvariantLearner x = Tape.with("var a -1 0;var b 5 6;var c 18 20;");
        Due.is("many(0)", x.many(0), 12);
        for (int s = 0; s < 12; s++) {
            Due.is("a of " + s, Tape.value(x, s, 0), s / 6 - 1);
            Due.is("b of " + s, Tape.value(x, s, 1), s / 3 % 2 + 5);
            Due.is("c of " + s, Tape.value(x, s, 2), s % 3 + 18);
            Due.is("state " + s, x.stateOf(s / 6 - 1, s / 3 % 2 + 5, s % 3 + 18), s);
        }
        Sentences.by("Terms", "(without VARIABLES there is one).");
        x = Tape.with("start 1=1;");
        Due.is("many(0)", x.many(0), 1);
        Due.is("state 0", x.is(0, 0), 1);
        Due.is("state 1", x.is(1, 0), -1);
    }

    private static void startsAndBad() {
        Sentences.by("Terms", "STARTS: those that hold all A of one C of start at least;");
        InvariantLearner x = Tape.with("var x 0 5;start x>0 and x<3;start x=5 and x>4;"
                + "start x=1 and x=4;start x=2;");
        Due.same("starts", signs(x, 0), "011001");
        Due.is("a start of two C is one", x.many(1), 3);
        Due.same("no C", signs(Tape.with("var x 0 2;"), 0), "000");
        Due.same("a C that never holds", signs(Tape.with("var x 0 2;start 1=2;"), 0), "000");
        Due.same("a C that always holds", signs(Tape.with("var x 0 2;start 1=1;"), 0), "111");
        Sentences.by("Terms", "BAD: likewise.");
        x = Tape.with("var x 0 5;bad x>0 and x<3;bad x=5 and x>4;bad x=1 and x=4;bad x=2;");
        Due.same("bad", signs(x, 1), "011001");
        Due.is("many(2)", x.many(2), 3);
        Due.same("no C", signs(Tape.with("var x 0 2;start 1=1;"), 1), "000");
        x = Tape.with("var x 0 2;start x<2;bad x>0;");
        Due.is("a start may be bad", x.is(1, 0) + x.is(1, 1), 2);
    }

    private static void steps() {
        Sentences.by("Terms", "A STEP of a STATE: holds it all A of its C (or has it none),");
        InvariantLearner x = Tape.with("var x 0 4;step if x>1 and x<4;set x=0;step;set x=1;");
        int[] want = {-2, -2, 0, 0, -2};
        for (int s = 0; s < 5; s++) {
            Due.is("with a C from " + s, x.next(s, 0), want[s]);
            Due.is("with none from " + s, x.next(s, 1), 1);
        }
        Sentences.by("Terms",
                "all that is set becomes at once what E is in the STATE, else stays;");
        x = Tape.with("var x 0 3;var y 0 3;var z 0 3;step;set x=y;set y=x;step;set y=x+1;"
                + "set x=x+1;step;");
        int from = x.stateOf(1, 2, 3);
        Due.is("two change places", x.next(from, 0), x.stateOf(2, 1, 3));
        Due.is("y is what x was", x.next(from, 1), x.stateOf(2, 2, 3));
        Due.is("nothing set", x.next(from, 2), from);
    }

    private static void stepsBeyondTheRange() {
        Sentences.by("Terms", "is a value beyond its range, it can't be taken.");
        InvariantLearner x = Tape.with("var x -2 2;step;set x=x+1;step;set x=x-1;"
                + "step;set x=3;step;set x=0-3;step;set x=99*x;");
        Due.is("up to the greatest", x.next(3, 0), 4);
        Due.is("beyond the greatest", x.next(4, 0), -2);
        Due.is("down to the least", x.next(1, 1), 0);
        Due.is("below the least", x.next(0, 1), -2);
        for (int s = 0; s < 5; s++) {
            Due.is("always beyond", x.next(s, 2), -2);
            Due.is("always below", x.next(s, 3), -2);
            Due.is("far beyond", x.next(s, 4), s == 2 ? 2 : -2);
        }
        x = Tape.with("var x 0 2;var y 0 2;step;set x=x+1;set y=y-1;");
        Due.is("one of two is beyond", x.next(x.stateOf(0, 0, 0), 0), -2);
        Due.is("the other is beyond", x.next(x.stateOf(2, 1, 0), 0), -2);
        Due.is("none is", x.next(x.stateOf(1, 1, 0), 0), x.stateOf(2, 0, 0));
    }

    private static void comeTo() {
        Sentences.by("Terms", "COME TO: STARTS, and STATES to which a STEP leads from such.");
        Due.same("starts alone", signs(Tape.with("var x 0 3;start x=1;"), 2), "0100");
        Due.same("no starts", signs(Tape.with("var x 0 3;step;set x=2;"), 2), "0000");
        Due.same("by many steps, by bad ones, too",
                signs(Tape.with("var x 0 5;start x=1;bad x=2;step if x<4;set x=x+1;"), 2),
                "011110");
        Due.same("in a ring", signs(Tape.with("var x 0 3;start x=3;step;set x=3-x;"), 2), "1001");
        Due.same("downwards", signs(Tape.with("var x 0 5;start x=4;step;set x=x-2;"), 2),
                "101010");
        InvariantLearner x = Tape.with("var x 0 19;var y 1 15;var z 0 1;start x=19 and y=15 and "
                + "z=1;step;set x=x-1;step;set y=y-1;step;set z=0;");
        Due.is("all of 600", x.many(3), 600);
    }

    private static void doomed() {
        Sentences.by("Terms", "DOOMED: BAD ones, and STATES from which a STEP leads to such.");
        Due.same("bad alone", signs(Tape.with("var x 0 3;bad x=1;"), 3), "0100");
        Due.same("nothing bad", signs(Tape.with("var x 0 3;step;set x=2;"), 3), "0000");
        Due.same("by many steps, from starts, too",
                signs(Tape.with("var x 0 5;start x=2;bad x=4;step if x>0;set x=x+1;"), 3),
                "011110");
        Due.same("in a ring", signs(Tape.with("var x 0 3;bad x=3;step;set x=3-x;"), 3), "1001");
        Due.same("by one of two steps",
                signs(Tape.with("var x 0 3;bad x=3;step if x=0;set x=1;step if x=0;set x=3;"), 3),
                "1001");
        InvariantLearner x = Tape.with("var x 0 19;var y 1 15;var z 0 1;bad x=0 and y=1 and "
                + "z=0;step;set x=x-1;step;set y=y-1;step;set z=0;");
        Due.is("all of 600", x.many(4), 600);
    }

    private static void promise5() {
        InvariantLearner x = Tape.with("var x -1 1;var y 4 5;");
        Sentences.by("Promise 5", "The value of a VARIABLE in a STATE.");
        Due.is("value(0, 0)", Tape.value(x, 0, 0), -1);
        Due.is("value(5, 1)", Tape.value(x, 5, 1), 5);
        Sentences.by("Promise 5", "IndexOutOfBoundsException: no such STATE.");
        Due.is("value(6, 0)", Tape.value(x, 6, 0), 1000);
        Due.is("value(-1, 0)", Tape.value(x, -1, 0), 1000);
        for (int far : FAR) {
            Due.is("value(" + far + ", 0)", Tape.value(x, far, 0), 1000);
        }
        Due.is("value(600, 0)", Tape.value(Tape.with("var a 1 20;var b 1 15;var c 1 2;"), 600, 0),
                1000);
        Due.is("without variables", Tape.value(new InvariantLearner(), 1, 0), 1000);
        Sentences.by("Promise 5", "NoSuchElementException: no such VARIABLE.");
        Due.is("value(0, 2)", Tape.value(x, 0, 2), 2000);
        Due.is("value(5, -1)", Tape.value(x, 5, -1), 2000);
        for (int far : FAR) {
            Due.is("value(0, " + far + ")", Tape.value(x, 0, far), 2000);
        }
        Due.is("of three", Tape.value(Tape.with("var a 1 2;var b 1 2;var c 1 2;"), 7, 3), 2000);
        Due.is("without variables", Tape.value(new InvariantLearner(), 0, 0), 2000);
    }

    private static void promise6() {
        InvariantLearner x = Tape.with("var x -1 1;var y 4 5;");
        Sentences.by("Promise 6",
                "The STATE of values (of VARIABLES there are; others are not asked);");
        Due.is("stateOf(-1, 4, 99)", x.stateOf(-1, 4, 99), 0);
        for (int far : FAR) {
            Due.is("stateOf(1, 5, " + far + ")", x.stateOf(1, 5, far), 5);
            Due.is("without variables", new InvariantLearner().stateOf(far, far, far), 0);
        }
        Sentences.by("Promise 6", "NONE: one is beyond its range.");
        Due.is("stateOf(2, 4, 0)", x.stateOf(2, 4, 0), -1);
        Due.is("stateOf(-2, 4, 0)", x.stateOf(-2, 4, 0), -1);
        Due.is("stateOf(0, 3, 0)", x.stateOf(0, 3, 0), -1);
        Due.is("stateOf(0, 6, 0)", x.stateOf(0, 6, 0), -1);
        for (int far : FAR) {
            Due.is("stateOf(" + far + ", 4, 0)", x.stateOf(far, 4, 0), -1);
            Due.is("stateOf(0, " + far + ", 0)", x.stateOf(0, far, 0), -1);
        }
        x = Tape.with("var a 0 1;var b 0 1;var c 5 6;");
        Due.is("stateOf(1, 1, 6)", x.stateOf(1, 1, 6), 7);
        Due.is("stateOf(1, 1, 7)", x.stateOf(1, 1, 7), -1);
        Due.is("stateOf(1, 1, 4)", x.stateOf(1, 1, 4), -1);
    }

    private static void promise7() {
        Sentences.by("Promise 7", "Of a STATE, what 0 whether it is a START (1, 0), 1 BAD, "
                + "2 COME TO, 3 DOOMED,");
        InvariantLearner x = Tape.with("var x 0 6;start x=1;bad x=5;step if x=1;set x=2;"
                + "step if x=4;set x=5;");
        Due.same("START", signs(x, 0), "0100000");
        Due.same("BAD", signs(x, 1), "0000010");
        Due.same("COME TO", signs(x, 2), "0110000");
        Due.same("DOOMED", signs(x, 3), "0000110");
        Sentences.by("Promise 7", "6 how many STEPS can be taken;");
        Due.same("STEPS", signs(x, 6), "0100100");
        x = Tape.with("var x 0 2;step;step;set x=x+1;step;set x=x+2;step if x=1;step if x=1;"
                + "step;step;step;set x=0;");
        Due.same("some of eight", signs(x, 6), "674");
        Due.same("eight", signs(Tape.with("step;".repeat(8)), 6), "8");
        Due.same("none", signs(new InvariantLearner(), 6), "0");
        Sentences.by("Promise 7", "NONE: no such ones.");
        for (int what = 0; what < 7; what++) {
            Due.is("no state", x.is(3, what), -1);
            Due.is("no state", x.is(-1, what), -1);
            for (int far : FAR) {
                Due.is("no state", x.is(far, what), -1);
                Due.is("another what", x.is(0, far), -1);
            }
        }
        Due.is("another what", x.is(0, 7), -1);
        Due.is("another what", x.is(0, -1), -1);
        Due.is("state 600", Tape.with("var a 1 20;var b 1 15;var c 1 2;").is(600, 5), -1);
    }

    private static void promise7Learned() {
        Sentences.by("Promise 7", "4 held by the TREE (0 without one),");
        InvariantLearner x = Tape.with(LINE);
        Due.same("without one", signs(x, 4), "0000000000");
        x.learn(1);
        Due.same("a leaf that is so", signs(x, 4), "1111111111");
        x.learn(1);
        Due.same("a leaf that is not so", signs(x, 4), "0000000000");
        x.learn(1);
        Due.same("x<2", signs(x, 4), "1100000000");
        x.learn(1);
        Due.same("x<5", signs(x, 4), "1111100000");
        Sentences.by("Promise 7", "5 the POINT it is (-2: none),");
        int[] want = {1, 2, 3, -2, -2, -2, -2, 0, -2, -2};
        for (int s = 0; s < 10; s++) {
            Due.is("is(" + s + ", 5)", x.is(s, 5), want[s]);
        }
    }

    private static void promise8() {
        InvariantLearner x = Tape.with("var x 0 2;step if x<2;set x=x+1;step;set x=x-1;");
        Sentences.by("Promise 8", "To which STATE a STEP leads; -2: it can't be taken;");
        Due.is("next(0, 0)", x.next(0, 0), 1);
        Due.is("next(2, 0)", x.next(2, 0), -2);
        Due.is("next(2, 1)", x.next(2, 1), 1);
        Due.is("next(0, 1)", x.next(0, 1), -2);
        Sentences.by("Promise 8", "NONE: no such ones.");
        Due.is("next(3, 0)", x.next(3, 0), -1);
        Due.is("next(-1, 0)", x.next(-1, 0), -1);
        Due.is("next(0, 2)", x.next(0, 2), -1);
        Due.is("next(0, -1)", x.next(0, -1), -1);
        Due.is("next(1, -1)", x.next(1, -1), -1);
        Due.is("next(0, 8)", Tape.with("step;".repeat(8)).next(0, 8), -1);
        for (int far : FAR) {
            Due.is("next(" + far + ", 0)", x.next(far, 0), -1);
            Due.is("next(0, " + far + ")", x.next(0, far), -1);
            Due.is("next(" + far + ", " + far + ")", x.next(far, far), -1);
        }
        Due.is("of a new object", new InvariantLearner().next(0, 0), -1);
    }

    private static void promise9() {
        InvariantLearner x = Tape.with("var x 0 2;test x=1;test x<2;");
        Sentences.by("Promise 9", "Whether a TEST holds in a STATE (1, 0);");
        Due.is("holds(0, 0)", x.holds(0, 0), 0);
        Due.is("holds(0, 1)", x.holds(0, 1), 1);
        Due.is("holds(1, 0)", x.holds(1, 0), 1);
        Due.is("holds(1, 2)", x.holds(1, 2), 0);
        Sentences.by("Promise 9", "NONE: no such ones.");
        Due.is("holds(2, 0)", x.holds(2, 0), -1);
        Due.is("holds(-1, 0)", x.holds(-1, 0), -1);
        Due.is("holds(0, 3)", x.holds(0, 3), -1);
        Due.is("holds(0, -1)", x.holds(0, -1), -1);
        Due.is("holds(16, 0)", Tape.with("test 1=1;".repeat(16)).holds(16, 0), -1);
        for (int far : FAR) {
            Due.is("holds(" + far + ", 0)", x.holds(far, 0), -1);
            Due.is("holds(0, " + far + ")", x.holds(0, far), -1);
        }
        Due.is("of a new object", new InvariantLearner().holds(0, 0), -1);
    }

    private static void promise10() {
        Sentences.by("Promise 10", "How many STATES are so, what 0 all, 1 STARTS, 2 BAD, "
                + "3 COME TO, 4 DOOMED, 5 held by the TREE (0 without one);");
        InvariantLearner x = Tape.with("var x 0 9;start x<2;bad x>6;step if x<4;set x=x+1;"
                + "step if x=6;set x=7;test x<6;");
        Due.each("many", new int[] {x.many(0), x.many(1), x.many(2), x.many(3), x.many(4),
            x.many(5)}, 10, 2, 3, 5, 4, 0);
        x.learn(100);
        Due.is("END", x.ended(), 1);
        Due.is("held", x.many(5), 6);
        x = new InvariantLearner();
        Due.each("of a new object", new int[] {x.many(0), x.many(1), x.many(2), x.many(3),
            x.many(4), x.many(5)}, 1, 0, 0, 0, 0, 0);
        x.learn(1);
        Due.is("held then", x.many(5), 1);
        Sentences.by("Promise 10", "NONE for another what.");
        Due.is("many(6)", x.many(6), -1);
        Due.is("many(-1)", x.many(-1), -1);
        for (int far : FAR) {
            Due.is("many(" + far + ")", x.many(far), -1);
        }
    }
}
