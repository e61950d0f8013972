/** Texts with the FAULT and the place that are due, and texts without one. */
final class Texts {
    private Texts() {
    }

    static void fine(String text, int lines) {
        InvariantLearner x = new InvariantLearner();
        Due.is("text of <" + text + ">", Tape.read(x, text), lines);
        Due.is("fault(0) of <" + text + ">", x.fault(0), 0);
        Due.is("fault(1) of <" + text + ">", x.fault(1), -1);
    }

    /** The place of the fault is where the mark ^ stands in the text, which is taken out. */
    static void wrong(String marked, int fault) {
        int place = marked.indexOf('^');
        String text = marked.substring(0, place) + marked.substring(place + 1);
        InvariantLearner x = new InvariantLearner();
        Due.is("text of <" + text + ">", Tape.read(x, text), -1);
        Due.is("fault(0) of <" + text + ">", x.fault(0), fault);
        Due.is("fault(1) of <" + text + ">", x.fault(1), place);
    }

    /** Whether a TEST holds, one sign for each STATE. */
    static void holds(String text, int test, String want) {
        InvariantLearner x = Tape.with(text);
        StringBuilder got = new StringBuilder();
        for (int s = 0; s < x.many(0); s++) {
            got.append(x.holds(test, s));
        }
        Due.same("test " + test + " of <" + text + ">", got.toString(), want);
    }
}
