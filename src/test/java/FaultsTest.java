/** Promises 3 and 4: texts with the FAULT and the place that are due, and texts without one. */
public final class FaultsTest {
    private static final String TWELVE = "1+1+1+1+1+1+1+1+1+1+1+1";
    private static final String EIGHT =
            "1=1 and 1=1 and 1=1 and 1=1 and 1=1 and 1=1 and 1=1 and 1=1";

    public static void main(String[] args) {
        textsWithoutFault();
        tokens();
        lines();
        variables();
        expressions();
        limits();
        toldAlready();
        ofOnePlaceTheLeast();
        Due.end();
    }

    private static void fine(String text, int lines) {
        InvariantLearner x = new InvariantLearner();
        Due.is("text of <" + text + ">", Tape.read(x, text), lines);
        Due.is("fault(0) of <" + text + ">", x.fault(0), 0);
        Due.is("fault(1) of <" + text + ">", x.fault(1), -1);
    }

    /** The place of the fault is where the mark ^ stands in the text, which is taken out. */
    private static void wrong(String marked, int fault) {
        int place = marked.indexOf('^');
        String text = marked.substring(0, place) + marked.substring(place + 1);
        InvariantLearner x = new InvariantLearner();
        Due.is("text of <" + text + ">", Tape.read(x, text), -1);
        Due.is("fault(0) of <" + text + ">", x.fault(0), fault);
        Due.is("fault(1) of <" + text + ">", x.fault(1), place);
    }

    private static void textsWithoutFault() {
        fine("", 0);
        fine(" \n ", 0);
        fine("var x 0 5;", 1);
        fine("  var\nx\n-\n5 20 ;\n", 1);
        fine("varx".substring(0, 3) + " x0 5;", 1);
        fine("var x -20 -20;", 1);
        fine("var x -0 007;", 1);
        fine("var abcdef 0 0;var a 0 0;var vars 0 0;", 3);
        fine("var x 0 19;var y 0 14;var z 0 1;", 3);
        fine("step;", 1);
        fine("step if 1=1;test 1<2;start 3>2;bad 99=0;", 4);
        fine("var x 0 1;step;test x=1;set x=1-x;", 4);
        fine("var x 0 1;step;set x=1;step;set x=0;", 5);
        fine("test " + TWELVE + "=" + TWELVE + ";", 1);
        fine("start " + EIGHT + ";", 1);
        fine("var x 0 1;test 2*x<3 * x-x;", 2);
        fine("start 1=1;start 1=1;start 1=1;start 1=1;", 4);
        fine("step;step;step;step;step;step;step;step;", 8);
        fine("test 0000000000000000000099=1;", 1);
        fine("test 1=1and".substring(0, 8) + ";", 1);
        fine("start 1=1and 2=2;", 1);
    }

    private static void tokens() {
        wrong("^@", 1);
        wrong("^;", 1);
        wrong("^1;", 1);
        wrong("var ^X 0 1;", 1);
        wrong("^\tstep;", 1);
        wrong("^\rstep;", 1);
        wrong("^" + (char) 0 + "step;", 1);
        wrong("^" + (char) 225 + "step;", 1);
        wrong("step^" + (char) 255 + ";", 1);
        wrong("var ^abcdefg 0 1;", 1);
        wrong("^abcdefg", 1);
        wrong("^stepstep;", 1);
        wrong("step;^ste", 1);
        wrong("var ab^! 0 1;", 1);
        wrong("test 1=1^/1;", 1);
        wrong("test 1^(=1;", 1);
    }

    private static void lines() {
        wrong("var x 0 1^", 1);
        wrong("var^", 1);
        wrong("var x^", 1);
        wrong("var x -^", 1);
        wrong("var x 0   ^", 1);
        wrong("start^", 1);
        wrong("start 1^", 1);
        wrong("start 1=^", 1);
        wrong("start 1=1^", 1);
        wrong("start 1=1 and^", 1);
        wrong("step^", 1);
        wrong("step if^", 1);
        wrong("step if ^;", 1);
        wrong("step ^1=1;", 1);
        wrong("step if 1=1 ^if 1=1;", 1);
        wrong("start 1=1 ^start 1=1;", 1);
        wrong("^set x=0;", 1);
        wrong("var x 0 1;^set x=0;step;", 1);
        wrong("var x 0 1;step;set ^y=0;", 1);
        wrong("var x 0 1;step;set x^<0;", 1);
        wrong("var x 0 1;step;set x=^;", 1);
        wrong("var x 0 1;step;set x=0 ^and 1=1;", 1);
        wrong("var x 0 1;step;set x=0^=0;", 1);
        wrong("test 1=1 ^and 1=1;", 1);
        wrong("test 1=1^=1;", 1);
        wrong("test ^if 1=1;", 1);
        wrong("step;^var x 0 1;", 1);
        wrong("var x 0 1;test x=0;^var y 0 1;", 1);
        wrong("^if 1=1;", 1);
        wrong("^and;", 1);
        wrong("^x;", 1);
        wrong("step;^;", 1);
    }

    private static void variables() {
        wrong("var ^5 0 1;", 1);
        for (String word : Model.WORDS) {
            wrong("var ^" + word + " 0 1;", 1);
            wrong("test ^" + word + "=1;", 1);
        }
        wrong("var x ^21 21;", 2);
        wrong("var x ^-21 0;", 2);
        wrong("var x ^- 99 0;", 2);
        wrong("var x ^100 0;", 2);
        wrong("var x ^-100000000000000000000 0;", 2);
        wrong("var x ^4294967296 5;", 2);
        wrong("var x 0 ^21;", 2);
        wrong("var x 5 ^4;", 2);
        wrong("var x 5 ^-5;", 2);
        wrong("var x -5 ^-6;", 2);
        wrong("var x -5^;", 1);
        wrong("var x 0 1 ^2;", 1);
        wrong("var x ^y 1;", 1);
        wrong("var x 0 ^x;", 1);
        wrong("var x -^-5 1;", 1);
        wrong("var x ^+5 1;", 1);
        wrong("var x 0 19;var y 0 14;var z 0 ^2;", 2);
        wrong("var x 0 19;var y 0 ^30;", 2);
        wrong("var x -20 20;var y -15 ^-1;", 2);
        wrong("var x 0 0;var y 0 0;var z 0 0;^var w 0 0;", 2);
    }

    private static void expressions() {
        wrong("test ^=1;", 1);
        wrong("test ^-1=1;", 1);
        wrong("test 1+^=1;", 1);
        wrong("test 1+^+1=1;", 1);
        wrong("test 1^*1=1;".replace("^*1", "*^1"), 1);
        wrong("var x 0 1;test x^*2=1;", 1);
        wrong("var x 0 1;test 2*^y=1;", 1);
        wrong("var x 0 1;test 2*2".replace("2*2", "2*^2") + "=1;", 1);
        wrong("var x 0 1;test 2 ^x=1;", 1);
        wrong("test ^100=1;", 2);
        wrong("test 1=2-^100;", 2);
        wrong("var x 0 1;test ^100*x=1;", 2);
        wrong("var x 0 1;step;set x=^100;", 2);
        wrong("test ^99999999999999999999=1;", 2);
        wrong("test 1^;", 1);
        wrong("test 1=^<1;", 1);
    }

    private static void limits() {
        wrong("start 1=1;start 1=1;start 1=1;start 1=1;^start 1=1;", 2);
        wrong("bad 1=1;bad 1=1;bad 1=1;bad 1=1;^bad 1=1;", 2);
        wrong("step;step;step;step;step;step;step;step;^step;", 2);
        StringBuilder tests = new StringBuilder();
        for (int i = 0; i < 16; i++) {
            tests.append("test 1=1;");
        }
        fine(tests.toString(), 16);
        wrong(tests + "^test 1=1;", 2);
        wrong("bad " + EIGHT + " and ^1=1;", 2);
        wrong("step if " + EIGHT + " and ^1=1;", 2);
        wrong("test " + TWELVE + "+^1=1;", 2);
        wrong("test 1=" + TWELVE + "-^1;", 2);
        wrong("var x 0 1;step;set x=" + TWELVE + "+^2*x;", 2);
    }

    private static void toldAlready() {
        wrong("var x 0 1;var ^x 0 1;", 3);
        wrong("var x 0 1;var y 0 1;var ^x 0 1;", 3);
        wrong("var x 0 1;var y 0 1;step;set x=0;set y=0;set ^x=1;", 3);
        wrong("var x 0 1;step;set x=0;test x=0;set ^x=0;", 3);
    }

    private static void ofOnePlaceTheLeast() {
        // A fourth var that is also too late.
        wrong("var x 0 0;var y 0 0;var z 0 0;step;^var w 0 0;", 1);
        // A 13th T and a 9th A that can't be one, or whose number is too great.
        wrong("test " + TWELVE + "+^y=1;", 1);
        wrong("test " + TWELVE + "+^;", 1);
        wrong("test " + TWELVE + "+^", 1);
        wrong("test " + TWELVE + "+^100=1;", 2);
        wrong("bad " + EIGHT + " and ^;", 1);
        wrong("bad " + EIGHT + " and ^y=1;", 1);
        wrong("bad " + EIGHT + " and^", 1);
        // A number that is too great where no number can stand.
        wrong("step ^100;", 1);
        wrong("^100;", 1);
        // The first along the text.
        wrong("test ^100=@;", 2);
        wrong("test ^@=100;", 1);
        wrong("var x ^30 10;var x 0 1;", 2);
    }
}
