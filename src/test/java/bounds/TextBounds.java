/** The words on the TEXT and its FAULTS, and promises 1 to 4. */
final class TextBounds {
    private static final String TWELVE = "1+1+1+1+1+1+1+1+1+1+1+1";
    private static final String EIGHT =
            "1=1 and 1=1 and 1=1 and 1=1 and 1=1 and 1=1 and 1=1 and 1=1";
    private static final String FULLEST = fullest();

    private TextBounds() {
    }

    static void all() {
        lines();
        conditions();
        expressions();
        words();
        numbers();
        blanks();
        variables();
        ranges();
        limitsOfLines();
        sets();
        limitsOfConditions();
        firstAlongTheText();
        tokens();
        whatCannotStandThere();
        theLength();
        tooMuch();
        toldAlready();
        calls();
        promise1();
        promise2();
        promise3();
        promise3Faults();
        promise3Refused();
        promise4();
    }

    private static void fine(String text, int lines) {
        Texts.fine(text, lines);
    }

    private static void wrong(String marked, int fault) {
        Texts.wrong(marked, fault);
    }

    private static void lines() {
        Sentences.by("Terms", "A TEXT: { LINE ';' }.");
        fine("", 0);
        fine("step;", 1);
        fine("step;step;", 2);
        wrong("^;", 1);
        wrong("step;^;", 1);
        wrong("step^", 1);
        wrong("step ^step;", 1);
        wrong("start 1=1 ^start 1=1;", 1);
        Sentences.by("Terms",
                "LINE: var W N N | start C | bad C | step [ if C ] | set W = E | test A.");
        fine("var x 0 1;start x=0;bad x=1;step;step if x=0;set x=1;test x=1;", 7);
        wrong("var ^0 1;", 1);
        wrong("var x^;", 1);
        wrong("var x 0^;", 1);
        wrong("var x 0 1 ^2;", 1);
        wrong("var x ^y 1;", 1);
        wrong("var x 0 ^x;", 1);
        wrong("start^;", 1);
        wrong("bad^;", 1);
        wrong("step if^;", 1);
        wrong("step ^1=1;", 1);
        wrong("step if 1=1 ^if 1=1;", 1);
        wrong("var x 0 1;step;set^;", 1);
        wrong("var x 0 1;step;set x^;", 1);
        wrong("var x 0 1;step;set x ^1;", 1);
        wrong("var x 0 1;step;set x^<0;", 1);
        wrong("var x 0 1;step;set x=^;", 1);
        wrong("var x 0 1;step;set x=0^=0;", 1);
        wrong("var x 0 1;step;set x=0 ^and 1=1;", 1);
        wrong("test^;", 1);
        wrong("test ^if 1=1;", 1);
        for (String word : new String[] {"if", "and", "x", "1", "<", "=", ">", "+", "-", "*"}) {
            wrong("^" + word + ";", 1);
        }
    }

    private static void conditions() {
        Sentences.by("Terms", "C: A { and A }.");
        fine("start 1=1;bad 1=1 and 2=2;step if 1=1 and 2=2 and 3=3;", 3);
        wrong("start ^and 1=1;", 1);
        wrong("start 1=1 ^2=2;", 1);
        wrong("start 1=1 and^;", 1);
        wrong("bad 1=1 and ^and 1=1;", 1);
        wrong("test 1=1 ^and 1=1;", 1);
        Sentences.by("Terms", "A: E S E.");
        wrong("test ^=1;", 1);
        wrong("test 1^;", 1);
        wrong("test 1 ^1;", 1);
        wrong("test 1=^;", 1);
        wrong("test 1=1^=1;", 1);
        wrong("start 1 ^and 1=1;", 1);
        Sentences.by("Terms", "S: '<' | '=' | '>'.");
        Texts.holds("var x 4 6;test x<5;", 0, "100");
        Texts.holds("var x 4 6;test x=5;", 0, "010");
        Texts.holds("var x 4 6;test x>5;", 0, "001");
        wrong("test 1<^=1;", 1);
        wrong("test 1>^<1;", 1);
        wrong("test 1^!1;", 1);
    }

    private static void expressions() {
        Sentences.by("Terms", "E: T { ('+' | '-') T }.");
        Texts.holds("test 9-3-2=4;", 0, "1");
        Texts.holds("test 9-3+2=8;", 0, "1");
        Texts.holds("test 1=9-3-2-3;", 0, "1");
        wrong("test ^+1=1;", 1);
        wrong("test ^-1=1;", 1);
        wrong("test 1=^-1;", 1);
        wrong("test 1+^=1;", 1);
        wrong("test 1-^-1=1;", 1);
        wrong("test 1+^+1=1;", 1);
        Sentences.by("Terms", "T: N | W | N '*' W.");
        Texts.holds("var x -2 2;test 2*x+1>0-3;", 0, "01111");
        Texts.holds("var x -2 2;test 0*x=0;", 0, "11111");
        Texts.holds("var x -2 2;test x+x+x=3*x;", 0, "11111");
        Texts.holds("var x -2 2;test 1-x-x<2*x-2;", 0, "00011");
        Texts.holds("var x -2 2;var y 0 1;test 99*y=99;", 0, "0101010101");
        wrong("var x 0 1;test x^*2=1;", 1);
        wrong("var x 0 1;test 2 ^x=1;", 1);
        wrong("var x 0 1;test 2*^2=1;", 1);
        wrong("var x 0 1;test 2*^=1;", 1);
        wrong("var x 0 1;test 2*x^*x=1;", 1);
        wrong("var x 0 1;test ^*x=1;", 1);
    }

    private static void words() {
        Sentences.by("Terms", "W: a word, a .. z, of 1 .. 6 letters, none of the language's "
                + "(var, start, bad, step, if, set, test, and).");
        fine("var a 0 0;var z 0 0;var abcxyz 0 0;", 3);
        fine("var a 0 0;var aa 0 0;var aaaaaa 0 0;", 3);
        fine("var zzzzzz 0 0;var zzzzz 0 0;var zzzzzy 0 0;", 3);
        fine("var vars 0 0;var i 0 0;var andand 0 0;", 3);
        wrong("var ^abcdefg 0 0;", 1);
        wrong("var ^aaaaaaaaaaaaaaaaaaaa 0 0;", 1);
        wrong("var ^A 0 0;", 1);
        wrong("var ab^Z 0 0;", 1);
        wrong("var a^" + (char) ('a' - 1) + " 0 0;", 1);
        wrong("var a^" + (char) ('z' + 1) + " 0 0;", 1);
        wrong("var a^_ 0 0;", 1);
        for (String word : Model.WORDS) {
            wrong("var ^" + word + " 0 1;", 1);
            wrong("test ^" + word + "=1;", 1);
            wrong("var x 0 1;step;set ^" + word + "=1;", 1);
        }
    }

    private static void numbers() {
        Sentences.by("Terms", "N: digits, 0 .. 99; in var '-' may stand ahead.");
        Texts.holds("test 0=0;", 0, "1");
        Texts.holds("test 99-98=1;", 0, "1");
        Texts.holds("test 10+9=19;", 0, "1");
        Texts.holds("test 007=7;", 0, "1");
        fine("test 0000000000000000000099=1;", 1);
        wrong("test ^100=1;", 2);
        wrong("test ^99999999999999999999=1;", 2);
        wrong("test ^4294967297=1;", 2);
        wrong("test ^18446744073709551617=1;", 2);
        wrong("test 1^" + (char) ('0' - 1) + "=1;", 1);
        wrong("test 1^" + (char) ('9' + 1) + "=1;", 1);
        fine("var x -1 0;", 1);
        fine("var x - 2 -\n1;", 1);
        fine("var x -0 -0;", 1);
        fine("var x-1-1;", 1);
        wrong("var x -^-1 0;", 1);
        wrong("var x ^+1 2;", 1);
        wrong("var x - ^;", 1);
        wrong("var x 0 -^;", 1);
    }

    private static void blanks() {
        Sentences.by("Terms", "Blanks 10, 32.");
        fine(" \n ", 0);
        fine("\n\nstep \n ;\n ", 1);
        fine("  var\nx\n-\n5 20 ;\n", 1);
        fine("var x0 1;step if1=1and 2=2;", 2);
        for (int sign : new int[] {0, 1, 9, 11, 12, 13, 31, 33, 127, 128, 133, 160, 255}) {
            wrong("^" + (char) sign + "step;", 1);
            wrong("step^" + (char) sign + ";", 1);
        }
        wrong("^va r x 0 1;", 1);
        wrong("test 1 ^0=1;", 1);
    }

    private static void variables() {
        Sentences.by("Terms", "var, at most 3,");
        fine("var x 0 0;var y 0 0;var z 0 0;", 3);
        wrong("var x 0 0;var y 0 0;var z 0 0;^var w 0 0;", 2);
        Sentences.by("Terms", "ahead of all others,");
        fine("var x 0 1;start 1=1;", 2);
        wrong("start 1=1;^var x 0 1;", 1);
        wrong("bad 1=1;^var x 0 1;", 1);
        wrong("step;^var x 0 1;", 1);
        wrong("test 1=1;^var x 0 1;", 1);
        wrong("var x 0 1;step;set x=1;^var y 0 1;", 1);
        Sentences.by("Terms", "numbered from 0 on: its LEAST and GREATEST value, -20 .. 20,");
        InvariantLearner x = Tape.with("var b -20 20;var a 3 4;");
        Due.is("first state, variable 0", Tape.value(x, 0, 0), -20);
        Due.is("first state, variable 1", Tape.value(x, 0, 1), 3);
        Due.is("last state, variable 0", Tape.value(x, 81, 0), 20);
        Due.is("last state, variable 1", Tape.value(x, 81, 1), 4);
        fine("var x -20 -20;var y 20 20;", 2);
        wrong("var x ^-21 0;", 2);
        wrong("var x ^21 21;", 2);
        wrong("var x -20 ^21;", 2);
        wrong("var x 0 ^100;", 2);
        Sentences.by("Terms", "the second not below the first;");
        fine("var x 5 5;var y -5 -5;", 2);
        wrong("var x 5 ^4;", 2);
        wrong("var x 0 ^-1;", 2);
        wrong("var x -19 ^-20;", 2);
        wrong("var x 5 ^-5;", 2);
        wrong("var x 0 ^-21;", 2);
    }

    private static void ranges() {
        Sentences.by("Terms",
                "all STATES together (each VARIABLE each of its values) 600 at most.");
        Due.is("20 by 15 by 2", Tape.with("var a 1 20;var b 1 15;var c 1 2;").many(0), 600);
        Due.is("24 by 25", Tape.with("var a 0 -0;var b -20 3;var c -20 4;").many(0), 600);
        Due.is("one value", Tape.with("var a 7 7;").many(0), 1);
        Due.is("41 by 14", Tape.with("var a -20 20;var b -20 -7;").many(0), 574);
        // 605 is the least number above 600 that ranges can make.
        wrong("var a 0 10;var b 0 10;var c 0 ^4;", 2);
        wrong("var a -20 20;var b -20 ^-6;", 2);
        largest("var x 0 19;var y 1 15;var z 0 1;start x=19 and y=15 and z=1;bad x=0;step if x>1;"
                + "set x=x-1;step if y>1;set y=y-1;step;set z=0;test x<1;test x>0;", 0, 599);
        largest("var x 0 19;var y 1 15;var z 0 1;start x=0 and y=1 and z=0;bad x=19;step if x<18;"
                + "set x=x+1;step if y<15;set y=y+1;step;set z=1;test x>18;test x<19;", 570, 0);
        largestOfNothing();
    }

    /** 600 STATES without anything else: no ROW is needed. */
    private static void largestOfNothing() {
        InvariantLearner x = Tape.with("var x 0 19;var y 1 15;var z 0 1;");
        Due.is("learn", x.learn(100), 1);
        Due.is("END", x.ended(), 1);
        Due.is("held", x.many(5), 600);
        Due.is("held by shorter rows", x.shortMany(), 0);
    }

    /** 600 STATES, all COME TO but 30, which are BAD; the first of these, and the one START. */
    private static void largest(String text, int bad, int start) {
        for (int ways = 0; ways < 4; ways++) {
            InvariantLearner x = Tape.with(text);
            Due.each("many", new int[] {x.many(0), x.many(1), x.many(2), x.many(3), x.many(4)},
                    600, 1, 30, 570, 30);
            x.ways(ways / 2, ways % 2);
            Due.is("learn", x.learn(100), 3);
            Due.is("END", x.ended(), 1);
            Due.is("the BAD one", x.point(ways / 2, 0), ways % 2 == 0 ? bad : bad + 29);
            Due.is("the START", x.point(1 - ways / 2, 0), start);
            Due.same("tree", Show.tree(x), "t0(-,+)");
            Due.is("held", x.many(5), 570);
            Due.is("held by shorter rows", x.shortMany(), 570);
            Due.is("x<1 doesn't hold, x>0 does", 10 * x.together(0) + x.together(1), 12);
            Due.is("together", x.togetherProves(), 1);
            Due.is("by one step", x.bySteps(), 1);
            Due.is("needed", x.needed(ways / 2, ways % 2), 0);
            Whole.of(x);
        }
    }

    private static String times(int n, String line) {
        return line.repeat(n);
    }

    private static void limitsOfLines() {
        String starts = times(4, "start 1=1;");
        String bads = times(4, "bad 1=1;");
        Sentences.by("Terms", "start, bad: at most 4 each;");
        fine(starts + bads, 8);
        wrong(starts + "^start 1=1;", 2);
        wrong(bads + "^bad 1=1;", 2);
        wrong(starts + bads + "step;^start 1=1;", 2);
        // The fourth counts: it alone holds.
        InvariantLearner x = Tape.with(times(3, "start 1=2;bad 1=2;") + "start 1=1;bad 1=1;");
        Due.is("the fourth start", x.is(0, 0), 1);
        Due.is("the fourth bad", x.is(0, 1), 1);
        Sentences.by("Terms", "step: at most 8, numbered from 0 on;");
        fine(times(8, "step;"), 8);
        wrong(times(8, "step;") + "^step;", 2);
        wrong(times(8, "step;") + "test 1=1;^step if 1=1;", 2);
        x = Tape.with("var x 0 8;" + "step;set x=1;step;set x=2;step;set x=3;step;set x=4;"
                + "step;set x=5;step;set x=6;step;set x=7;step;set x=8;");
        for (int k = 0; k < 8; k++) {
            Due.is("step " + k, x.next(0, k), k + 1);
        }
        Sentences.by("Terms", "test: at most 16, numbered from 0 on.");
        fine(times(16, "test 1=1;"), 16);
        wrong(times(16, "test 1=1;") + "^test 1=1;", 2);
        StringBuilder tests = new StringBuilder("var x 0 15;");
        for (int t = 0; t < 16; t++) {
            tests.append("test x=").append(t).append(";");
        }
        x = Tape.with(tests.toString());
        for (int t = 0; t < 16; t++) {
            Due.is("test " + t, x.holds(t, t), 1);
            Due.is("test " + t + " elsewhere", x.holds(t, (t + 1) % 16), 0);
        }
        Due.is("all of them as bits", x.together(1), 65535);
    }

    private static void sets() {
        Sentences.by("Terms", "set: of the latest step, each VARIABLE once;");
        InvariantLearner x = Tape.with(
                "var x 0 3;var y 0 3;step;step;set x=1;set y=2;test x=0;step;set y=3;start x=0;"
                        + "set x=2;");
        Due.is("step 0 sets nothing", x.next(0, 0), 0);
        Due.is("step 1 sets both", x.next(0, 1), x.stateOf(1, 2, 0));
        Due.is("step 2 sets both, behind other lines, too", x.next(0, 2), x.stateOf(2, 3, 0));
        wrong("var x 0 1;step;set x=0;set ^x=0;", 3);
        fine("var x 0 1;step;set x=0;step;set x=0;", 5);
        fine("var x 0 1;var y 0 1;var z 0 1;step;set x=0;set y=0;set z=0;", 7);
    }

    private static void limitsOfConditions() {
        Sentences.by("Terms", "An A that is 8 in one C at most;");
        fine("start " + EIGHT + ";bad " + EIGHT + ";step if " + EIGHT + ";start " + EIGHT + ";", 4);
        wrong("start " + EIGHT + " and ^1=1;", 2);
        wrong("bad " + EIGHT + " and ^1=1;", 2);
        wrong("step if " + EIGHT + " and ^1=1;", 2);
        wrong("start 1=1;start " + EIGHT + " and ^1=1;", 2);
        fullestText();
        Sentences.by("Terms", "12 T in one E at most.");
        fine("var x 0 1;test " + TWELVE + "=" + TWELVE + ";step;set x=" + TWELVE + ";", 4);
        Texts.holds("test " + TWELVE + "=12;", 0, "1");
        Texts.holds("test 12=" + TWELVE + ";", 0, "1");
        wrong("test " + TWELVE + "+^1=1;", 2);
        wrong("test 1=" + TWELVE + "-^1;", 2);
        wrong("var x 0 1;step;set x=" + TWELVE + "+^2*x;", 2);
        wrong("var x 0 1;test " + TWELVE + "+^x=1;", 2);
        Texts.holds("var x -20 20;test " + times(11, "99*x+") + "99*x=0-" + times(10, "99*x-")
                + "99*x;", 0, times(20, "0") + "1" + times(20, "0"));
    }

    /** All C that may be, each with 8 A, the last of which decides. */
    private static String fullest() {
        String seven = times(7, "1=1and");
        StringBuilder text = new StringBuilder("var x 0 7;");
        for (int i = 0; i < 4; i++) {
            text.append("start ").append(seven).append(i).append("=x;bad ")
                    .append(seven).append(i + 4).append("=x;");
        }
        for (int i = 0; i < 8; i++) {
            text.append("step if ").append(seven).append(i).append("=x;");
        }
        return text.toString();
    }

    private static void fullestText() {
        InvariantLearner x = Tape.with(FULLEST);
        for (int s = 0; s < 8; s++) {
            Due.is("start " + s, x.is(s, 0), s < 4 ? 1 : 0);
            Due.is("bad " + s, x.is(s, 1), s < 4 ? 0 : 1);
            for (int k = 0; k < 8; k++) {
                Due.is("step " + k + " from " + s, x.next(s, k), s == k ? s : -2);
            }
        }
    }

    private static void firstAlongTheText() {
        Sentences.by("Terms", "FAULTS, the first along the text (of one place the least), "
                + "with its place:");
        wrong("test ^100=@;", 2);
        wrong("test ^@=100;", 1);
        wrong("var x ^30 10;var x 0 1;", 2);
        wrong("var x 0 1;var ^x 30 1;", 3);
        wrong("var x 5 ^4", 2);
        wrong("var x 0 1;step;set x=0;set ^x=y;", 3);
        wrong("bad " + EIGHT + " and ^1", 2);
        wrong("test " + TWELVE + "+^1*y=1;", 2);
        // Of one place the least: a fourth var that is too late.
        wrong("var x 0 0;var y 0 0;var z 0 0;step;^var w 0 0;", 1);
        // A 13th T, a 9th A that can't be one.
        wrong("test " + TWELVE + "+^y=1;", 1);
        wrong("test " + TWELVE + "+^;", 1);
        wrong("test " + TWELVE + "+^-1;", 1);
        wrong("test " + TWELVE + "+^", 1);
        wrong("bad " + EIGHT + " and ^;", 1);
        wrong("bad " + EIGHT + " and ^y=1;", 1);
        wrong("bad " + EIGHT + " and ^and 1=1;", 1);
        wrong("bad " + EIGHT + " and^", 1);
        // Both are 2: a 13th T, a 9th A, a number beyond what is said.
        wrong("test " + TWELVE + "+^100=1;", 2);
        wrong("bad " + EIGHT + " and ^100=1;", 2);
        // A number beyond what is said where none can stand.
        wrong("step ^100;", 1);
        wrong("^100;", 1);
        wrong("test 1 ^100=1;", 1);
        wrong("var ^100 0 1;", 1);
    }

    private static void tokens() {
        Sentences.by("Terms", "1 a TOKEN that is none (a word that is too long, too)");
        for (String sign : new String[] {"@", "!", "(", ")", ",", ".", "/", ":", "?", "X", "_", "~",
            "\"", "\t", "\r"}) {
            wrong("^" + sign, 1);
            wrong("step^" + sign + ";", 1);
            wrong("test 1^" + sign + "=1;", 1);
        }
        wrong("^" + times(900, "@"), 1);
        wrong("^" + times(900, ";"), 1);
        wrong("^" + times(900, "a"), 1);
        wrong("^" + times(900, "9"), 1);
        wrong("^abcdefg", 1);
        wrong("^stepstep;", 1);
        wrong("test ^abcdefg=1;", 1);
        wrong("step;^startstart 1=1;", 1);
        wrong("var abcdef 0 1;test ^abcdefa=1;", 1);
        wrong("var abcdef 0 1;test ^aabcdef=1;", 1);
    }

    private static void whatCannotStandThere() {
        Sentences.by("Terms", "or can't stand there (a W that is no VARIABLE, but in var;");
        wrong("test ^x=1;", 1);
        wrong("test 1=^x;", 1);
        wrong("var x 0 1;test 2*^y=1;", 1);
        wrong("var x 0 1;start x=0 and ^xx=0;", 1);
        wrong("var x 0 1;step;set ^y=0;", 1);
        wrong("step;^ste;", 1);
        fine("var x 0 1;", 1);
        Sentences.by("Terms", "set ahead of any step;");
        wrong("^set x=0;", 1);
        wrong("var x 0 1;^set x=0;step;", 1);
        wrong("var x 0 1;start x=0;test x=0;^set y=0;", 1);
        Sentences.by("Terms", "a LINE too late;");
        wrong("test 1=1;^var x 0 1;", 1);
        wrong("var x 0 1;bad x=0;^var x 0 1;", 1);
        wrong("step;^var", 1);
    }

    private static void theLength() {
        Sentences.by("Terms", "the length, if more must come).");
        for (String text : new String[] {"var", "var x", "var x -", "var x 0", "var x 0 -",
            "var x 0 1", "start", "start 1", "start 1=", "start 1=1", "start 1=1 and", "bad",
            "step", "step if", "step if 1=1", "test", "test 1+", "test 1=1-", "test 1",
            "var x 0 1;test 2*", "var x 0 1;step;set", "var x 0 1;step;set x",
            "var x 0 1;step;set x=", "var x 0 1;step;set x=1"}) {
            wrong(text + "^", 1);
            wrong(text + " \n^", 1);
        }
        // The text ends where n says, whatever stands behind it.
        InvariantLearner x = new InvariantLearner();
        Tape.feed(x, "step;step;");
        Due.is("text(9)", x.text(9), -1);
        Due.is("place", x.fault(1), 9);
        Tape.feed(x, "step;step;");
        Due.is("text(7)", x.text(7), -1);
        Due.is("place of a word that is cut", x.fault(1), 5);
    }

    private static void tooMuch() {
        Sentences.by("Terms", "2 too much (at it): a number beyond what is said "
                + "(at '-', if there is one;");
        wrong("var x ^21 21;", 2);
        wrong("var x ^-21 0;", 2);
        wrong("var x ^- 99 0;", 2);
        wrong("var x ^-\n100 0;", 2);
        wrong("var x ^-100000000000000000000 0;", 2);
        wrong("var x ^4294967296 5;", 2);
        wrong("var x 0 ^21;", 2);
        wrong("var x -5 ^- 6;", 2);
        wrong("test 1=2-^100;", 2);
        wrong("var x 0 1;test ^100*x=1;", 2);
        wrong("var x 0 1;step;set x=1-^100;", 2);
        wrong("start 1=1 and ^100=1;", 2);
        Sentences.by("Terms",
                "of a var by which there would be more than 600 STATES its GREATEST),");
        wrong("var x 0 19;var y 0 14;var z 0 ^2;", 2);
        wrong("var x 0 19;var y 0 20;var z 0 ^9;", 2);
        wrong("var x -20 20;var y -15 ^-1;", 2);
        wrong("var x 0 10;var y 0 10;var z -4 ^- 0;", 2);
        Sentences.by("Terms", "a fourth var and so on (at the word of the LINE),");
        wrong("var x 0 0;var y 0 0;var z 0 0;^var", 2);
        wrong("var x 0 0;var y 0 0;var z 0 0;^var x 0 0;", 2);
        wrong(times(4, "start 1=1;") + "^start", 2);
        wrong(times(4, "bad 1=1;") + "^bad", 2);
        wrong(times(8, "step;") + "^step", 2);
        wrong(times(16, "test 1=1;") + "^test", 2);
        Sentences.by("Terms", "a 9th A of a C, a 13th T of an E (at its first TOKEN).");
        wrong("var x 0 1;start " + EIGHT + " and ^2*x=1;", 2);
        wrong("var x 0 1;start " + EIGHT + " and ^x+1=1;", 2);
        wrong("var x 0 1;test " + TWELVE + "+^2*x=1;", 2);
        wrong("var x 0 1;test " + TWELVE + " - ^x=1;", 2);
    }

    private static void toldAlready() {
        Sentences.by("Terms", "3 told already: W of var, of set for this step (at it).");
        wrong("var x 0 1;var ^x 0 1;", 3);
        wrong("var x 0 1;var y 0 1;var ^x 0 1;", 3);
        wrong("var abcdef 0 1;var y 0 1;var ^abcdef", 3);
        wrong("var x 0 1;var y 0 1;step;set x=0;set y=0;set ^x=1;", 3);
        wrong("var x 0 1;var y 0 1;step;set x=0;set y=0;set ^y=1;", 3);
        wrong("var x 0 1;step;set x=0;test x=0;set ^x=0;", 3);
        wrong("var x 0 1;step;step;set x=0;set ^x", 3);
    }

    private static void calls() {
        Sentences.by("What it is",
                "An object is used for at most 512 calls after it has been made;");
        InvariantLearner x = used();
        // used() has made four feeds, text, ways and learn: 7 calls.
        for (int call = 8; call <= 511; call++) {
            Due.is("call " + call, x.run(call, 0), -2);
        }
        Due.is("the 512th call", x.learn(100), 1);
        x = new InvariantLearner();
        for (int call = 1; call <= 510; call += 2) {
            Tape.feed(x, "step;");
            Due.is("call " + (call + 1), x.text(20), 1);
        }
        Tape.feed(x, "step;step;");
        Due.is("the 512th call", x.text(20), 2);
    }

    private static void promise1() {
        Sentences.by("Promise 1", "No VARIABLES, no STARTS, nothing BAD; an empty TAPE.");
        InvariantLearner x = new InvariantLearner();
        for (int what = 0; what < 12; what++) {
            Due.is("count(" + what + ")", x.count(what), 0);
        }
        Due.is("STATES", x.many(0), 1);
        Due.is("STARTS", x.many(1), 0);
        Due.is("BAD", x.many(2), 0);
        Due.is("END", x.ended(), 0);
        Due.is("text(1)", x.text(1), -2);
        Due.is("NONE", InvariantLearner.NONE, -1);
    }

    /** Feeds twenty blanks, of which one is another sign. */
    private static int feedSign(InvariantLearner x, int place, char sign) {
        String blanks = " ".repeat(20);
        return Tape.feed(x, blanks.substring(0, place) + sign + blanks.substring(place + 1));
    }

    private static void promise2() {
        Sentences.by("Promise 2", "Twenty bytes come behind the TAPE, four of each number, "
                + "the highest first: how many it has;");
        for (int place = 0; place < 20; place++) {
            InvariantLearner x = new InvariantLearner();
            Due.is("feed", feedSign(x, place, '@'), 20);
            x.text(20);
            Due.is("place in the first twenty", x.fault(1), place);
            Due.is("feed", x.feed(0x20202020, 0x20202020, 0x20202020, 0x20202020, 0x20202020), 20);
            Due.is("feed", feedSign(x, place, '@'), 40);
            x.text(40);
            Due.is("place in the second twenty", x.fault(1), 20 + place);
        }
        InvariantLearner x = new InvariantLearner();
        Due.is("any numbers", x.feed(Integer.MIN_VALUE, -1, 0, 1, Integer.MAX_VALUE), 20);
        Due.is("count(11)", x.count(11), 20);
        Sentences.by("Promise 2", "NONE, and none come, if it would have more than 900.");
        x = new InvariantLearner();
        for (int i = 1; i < 45; i++) {
            Due.is("feed " + i, feedSign(x, 0, ' '), 20 * i);
        }
        Due.is("feed up to 900", feedSign(x, 19, '@'), 900);
        Due.is("feed beyond 900", feedSign(x, 0, '!'), -1);
        Due.is("none came", x.count(11), 900);
        Due.is("text(901)", x.text(901), -2);
        Due.is("text(900)", x.text(900), -1);
        Due.is("the 900th byte is the one that came last", x.fault(1), 899);
        Due.is("feed then", feedSign(x, 0, ' '), 20);
    }

    /** A learner with points, a pair, a tree and other ways than the first ones. */
    private static InvariantLearner used() {
        InvariantLearner x = Tape.with("var x 0 9;start x=0;step if x<3;set x=x+1;bad x=7;"
                + "test x<2;test x<5;test x>7;");
        x.ways(1, 1);
        x.learn(3);
        return x;
    }

    private static void promise3() {
        Sentences.by("Promise 3", "The TAPE's first n bytes (it is empty then) are the TEXT");
        InvariantLearner x = new InvariantLearner();
        Tape.feed(x, "step;step;");
        Due.is("text(5) of 20 bytes", x.text(5), 1);
        Due.is("one step", x.count(3), 1);
        Due.is("the tape is empty", x.count(11), 0);
        Due.is("nothing is left to read", x.text(1), -2);
        Tape.feed(x, "step;");
        Due.is("text(20) of 20 bytes", x.text(20), 1);
        Due.is("the tape is empty", x.count(11), 0);
        Tape.feed(x, "step;");
        Due.is("text(0) of 20 bytes", x.text(0), 0);
        Due.is("the tape is empty", x.count(11), 0);
        Due.is("no step", x.count(3), 0);
        Due.is("text(0) of none", x.text(0), 0);
        Sentences.by("Promise 3", "(all anew: no POINTS, no TREE, CARE, ORDER 0):");
        for (String text : new String[] {"", "step;"}) {
            x = used();
            Due.is("there are points", x.count(5) > 0 ? 1 : 0, 1);
            Due.is("there are pairs", x.count(6) > 0 ? 1 : 0, 1);
            Tape.read(x, text);
            Due.each("count", new int[] {x.count(0), x.count(1), x.count(2), x.count(4),
                x.count(5), x.count(6), x.count(7), x.count(8), x.count(9), x.count(10)},
                    0, 0, 0, 0, 0, 0, 0, 0, 0, 0);
            Due.each("brought", new int[] {x.brought(0), x.brought(1), x.brought(2)}, 0, -2, -2);
            Due.is("no tree", x.rows(0, false), -2);
            Due.is("no point", x.is(0, 5), -2);
        }
        x = used();
        x.learn(100);
        Due.is("there is an END", x.ended(), 1);
        Tape.read(x, "step;");
        Due.is("no END", x.ended(), 0);
        anewWhateverWas();
        Sentences.by("Promise 3", "how many LINES;");
        fine("", 0);
        fine("var x 0 1;start x=0;step;set x=1;", 4);
        fine(times(16, "test 1=1;") + times(8, "step;") + times(4, "bad 1=1;start 1=1;"), 32);
    }

    /** One object reads text after text, each of which it must answer for as a new one does. */
    private static void anewWhateverWas() {
        String stuckWhereItHolds = "var x 0 9;start x<4;bad x>5;test x<8;test x>0;";
        String[] texts = {FULLEST, LearnBounds.LINE, HardSystems.ALL[3].text(), "step;",
            LearnBounds.DOWNFALL, "var x 0 1;step;test x=0;", FULLEST, LearnBounds.BETWEEN,
            "var x 0 1;step;set x=1-x;start x=0;", "", LearnBounds.LINE, LearnBounds.BETWEEN,
            "var x 0 4;start x=0;bad x=1;step;set x=2;test x>1;test x>0;", stuckWhereItHolds,
            HardSystems.ALL[20].text(), stuckWhereItHolds, LearnBounds.BETWEEN,
            "var x 0 3;start x=0;test x<9;", "var x 0 3;bad x=0;"};
        InvariantLearner x = LearnBounds.after(stuckWhereItHolds, 0, 100);
        Due.is("STUCK", x.ended(), 3);
        Tape.read(x, LearnBounds.LINE);
        x.learn(1);
        Due.is("nodes behind a tree that was begun", x.count(7), 1);
        for (String text : texts) {
            InvariantLearner y = Tape.with(text);
            Due.is("lines", Tape.read(x, text) > -1 ? 1 : 0, 1);
            Due.same("read anew", Whole.of(x), Whole.of(y));
            Due.is("learn(2)", x.learn(2), y.learn(2));
            Due.same("learned anew", Whole.of(x), Whole.of(y));
            Due.is("learn(100)", x.learn(100), y.learn(100));
            Due.same("learned anew", Whole.of(x), Whole.of(y));
        }
    }

    private static void promise3Faults() {
        Sentences.by("Promise 3", "NONE with a FAULT, all else stays;");
        InvariantLearner x = used();
        String before = Whole.of(x);
        for (String text : new String[] {"@", "var y 0 1;var z 0 1;start y=z;step;set", "step"}) {
            Tape.feed(x, text);
            Due.is("text", x.text(text.length()), -1);
            Due.is("the tape is empty", x.count(11), 0);
            Due.same("all else", Whole.of(x), before);
        }
        InvariantLearner y = used();
        Due.is("it learns as if nothing had been", x.learn(100), y.learn(100));
        Due.same("all of it", Whole.of(x), Whole.of(y));
    }

    private static void promise3Refused() {
        Sentences.by("Promise 3", "-2, and the TAPE stays: there are not so many, n is below 0.");
        InvariantLearner x = used();
        Tape.feed(x, "step;");
        String before = Whole.of(x);
        for (int n : new int[] {-1, Integer.MIN_VALUE, 21, 900, Integer.MAX_VALUE}) {
            Due.is("text(" + n + ")", x.text(n), -2);
            Due.is("the tape stays", x.count(11), 20);
            Due.same("all stays", Whole.of(x), before);
        }
        Due.is("its bytes, too", x.text(5), 1);
    }

    private static void promise4() {
        Sentences.by("Promise 4", "Of the latest text() that was not -2, "
                + "what 0: its FAULT (0), 1: its place (NONE without).");
        InvariantLearner x = new InvariantLearner();
        Tape.read(x, "step; set");
        Due.is("fault", x.fault(0), 1);
        Due.is("place", x.fault(1), 9);
        x.text(1);
        Due.is("behind a -2", x.fault(0), 1);
        Due.is("behind a -2", x.fault(1), 9);
        x.text(-1);
        Due.is("behind a -2", x.fault(0), 1);
        Tape.read(x, "test 100=1;");
        Due.is("the next fault", x.fault(0), 2);
        Due.is("the next place", x.fault(1), 5);
        Tape.read(x, "var x 0 1;var x");
        Due.is("the next fault", x.fault(0), 3);
        Due.is("the next place", x.fault(1), 14);
        x.text(0);
        Due.is("without", x.fault(0), 0);
        Due.is("without", x.fault(1), -1);
        Sentences.by("Promise 4", "NONE for another what, and ahead of any 0, NONE.");
        x = new InvariantLearner();
        Due.is("ahead of any", x.fault(0), 0);
        Due.is("ahead of any", x.fault(1), -1);
        x.text(1);
        Due.is("ahead of any but one that was -2", x.fault(0), 0);
        Due.is("ahead of any but one that was -2", x.fault(1), -1);
        Tape.read(x, "@");
        for (int what : new int[] {-1, 2, 3, Integer.MIN_VALUE, Integer.MAX_VALUE}) {
            Due.is("another what", x.fault(what), -1);
        }
    }
}
