/** The document, sentence by sentence: what each asks at its bounds, worked out by hand. */
public final class BoundsTest {
    private static final int PROMISES = 29;

    public static void main(String[] args) {
        TextBounds.all();
        StateBounds.all();
        LearnBounds.all();
        TeacherBounds.all();
        ProofBounds.all();
        Sentences.end(sections());
        Due.end();
    }

    private static String[] sections() {
        String[] all = new String[1 + PROMISES];
        all[0] = "Terms";
        for (int i = 1; i <= PROMISES; i++) {
            all[i] = "Promise " + i;
        }
        return all;
    }
}
