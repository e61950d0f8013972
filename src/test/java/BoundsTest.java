/** The document, sentence by sentence: what each asks at its bounds, worked out by hand. */
public final class BoundsTest {
    private static final int PROMISES = 29;

    public static void main(String[] args) {
        TextBounds.all();
        StateBounds.all();
        LearnBounds.all();
        TeacherBounds.all();
        ProofBounds.all();
        Sentences.end("Terms");
        for (int i = 1; i <= PROMISES; i++) {
            Sentences.end("Promise " + i);
        }
        Due.end();
    }
}
