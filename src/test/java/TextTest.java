import java.util.ArrayList;
import java.util.List;
import java.util.Random;

/** Promises 3 and 4 once more: texts with drawn faults, compared with the plain model. */
public final class TextTest {
    private static final int TEXTS = 40000;
    private static final String[] PIECES = {"var", "start", "bad", "step", "if", "set", "test",
        "and", "x", "y", "abcdef", "abcdefg", "w", "0", "1", "20", "21", "99", "100", "007", ";",
        "<", "=", ">", "+", "-", "*", "@", "X", "\t", "var w 0 1;", "start 1=1;", "bad 1=1;",
        "step;", "test 1=1;", "step if ", " and 1=1", "+1", "-x", "2*x", "set x=0;", "-5"};

    public static void main(String[] args) {
        int[] found = new int[4];
        Random random = new Random(20261118);
        InvariantLearner x = new InvariantLearner();
        for (int i = 0; i < TEXTS && Due.wrong() < 20; i++) {
            String text = mutated(random, random.nextInt(10) == 0 ? "" : Systems.draw(random));
            int fault = 0;
            int place = -1;
            int lines = -1;
            try {
                lines = new Model(text).lines;
            } catch (Model.Fault e) {
                fault = e.which;
                place = e.place;
            }
            found[fault]++;
            Due.is("text " + i + " <" + text + ">", Tape.read(x, text), lines);
            Due.is("fault(0) of text " + i + " <" + text + ">", x.fault(0), fault);
            Due.is("fault(1) of text " + i + " <" + text + ">", x.fault(1), place);
        }
        System.out.println("without a fault " + found[0] + ", with fault 1 " + found[1] + ", 2 "
                + found[2] + ", 3 " + found[3]);
        Due.end();
    }

    private static String mutated(Random random, String text) {
        List<String> pieces = new ArrayList<>(List.of(text.split("(?<=[^a-z0-9])|(?=[^a-z0-9])")));
        int changes = random.nextInt(4);
        boolean atLast = random.nextInt(3) == 0;
        for (int i = 0; i < changes; i++) {
            int at = atLast ? pieces.size() - random.nextInt(Math.min(6, pieces.size()))
                    : random.nextInt(pieces.size() + 1);
            int length = random.nextInt(20) == 0 ? 12 : 1;
            String piece = PIECES[random.nextInt(PIECES.length)];
            switch (random.nextInt(4)) {
                case 0 -> pieces.add(at, piece.repeat(length));
                case 1 -> pieces.add(at, " " + piece + " ");
                case 2 -> {
                    if (at < pieces.size()) {
                        pieces.set(at, piece);
                    }
                }
                default -> {
                    if (at < pieces.size() && pieces.size() > 1) {
                        pieces.remove(at);
                    }
                }
            }
        }
        String all = String.join("", pieces);
        if (random.nextInt(10) == 0) {
            all = all.substring(0, random.nextInt(all.length() + 1));
        }
        return all.substring(0, Math.min(all.length(), 900));
    }
}
