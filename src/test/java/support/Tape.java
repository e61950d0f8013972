/** Feeds texts to an InvariantLearner. */
final class Tape {
    private Tape() {
    }

    /** Feeds all signs of a text, with blanks up to the next twenty; the latest answer of feed. */
    static int feed(InvariantLearner x, String text) {
        int answer = InvariantLearner.NONE;
        for (int at = 0; at < text.length(); at += 20) {
            int[] numbers = new int[5];
            for (int i = 0; i < 20; i++) {
                int sign = at + i < text.length() ? text.charAt(at + i) & 255 : 32;
                numbers[i / 4] = (numbers[i / 4] << 8) | sign;
            }
            answer = x.feed(numbers[0], numbers[1], numbers[2], numbers[3], numbers[4]);
        }
        return answer;
    }

    /** Feeds a text to an empty tape and reads all of it. */
    static int read(InvariantLearner x, String text) {
        feed(x, text);
        return x.text(text.length());
    }

    static InvariantLearner with(String text) {
        InvariantLearner x = new InvariantLearner();
        int lines = read(x, text);
        if (lines < 0) {
            throw new IllegalArgumentException(
                    "fault " + x.fault(0) + " at " + x.fault(1) + " of: " + text);
        }
        return x;
    }

    /** What value() answers; 1000 and 2000 for its two exceptions. */
    static int value(InvariantLearner x, int state, int v) {
        try {
            return x.value(state, v);
        } catch (IndexOutOfBoundsException e) {
            return 1000;
        } catch (java.util.NoSuchElementException e) {
            return 2000;
        }
    }
}
