import java.util.Random;

/**
 * Drawn calls with all kinds of arguments, 512 to an object: nothing but value() ever throws, and
 * what is asked changes nothing: two objects of which only one is asked end alike.
 */
public final class CallsTest {
    private static final int OBJECTS = 600;
    private static final int CALLS = 512;
    private static final int[] EDGES = {-1000000, -3, -2, -1, 0, 1, 2, 3, 4, 5, 6, 7, 8, 11, 12, 15,
        16, 17, 99, 100, 101, 199, 200, 299, 300, 399, 400, 599, 600, 601, 900, 901,
        Integer.MIN_VALUE, Integer.MAX_VALUE, Integer.MIN_VALUE + 1, 65536, 357913942, 715827883};

    private static Random random;

    public static void main(String[] args) {
        for (int seed = 0; seed < OBJECTS; seed++) {
            random = new Random(seed);
            InvariantLearner asked = new InvariantLearner();
            InvariantLearner quiet = new InvariantLearner();
            for (int call = 0; call < CALLS; call++) {
                if (random.nextInt(12) == 0) {
                    change(asked, quiet);
                } else {
                    ask(asked, random.nextInt(22));
                }
            }
            Due.is("digest of object " + seed, digest(asked), digest(quiet));
        }
        Due.end();
    }

    private static int any() {
        int kind = random.nextInt(10);
        if (kind < 7) {
            return random.nextInt(6) - 1;
        }
        return kind < 9 ? EDGES[random.nextInt(EDGES.length)] : random.nextInt();
    }

    private static void change(InvariantLearner x, InvariantLearner y) {
        int a = any();
        int b = any();
        switch (random.nextInt(7)) {
            case 0 -> {
                String text = random.nextInt(4) == 0
                        ? HardSystems.ALL[random.nextInt(HardSystems.ALL.length)].text()
                        : Systems.draw(random);
                x.text(0);
                y.text(0);
                Tape.feed(x, text);
                Tape.feed(y, text);
                Due.is("text", x.text(text.length()), y.text(text.length()));
            }
            case 1 -> Due.is("feed", x.feed(a, b, a, b, a), y.feed(a, b, a, b, a));
            case 2 -> {
                int n = random.nextInt(3) == 0 ? a : -1;
                Due.is("text", x.text(n), y.text(n));
            }
            case 3 -> Due.is("ways", x.ways(a, b), y.ways(a, b));
            case 4 -> Due.is("run", x.run(a, b), y.run(a, b));
            case 5 -> Due.is("run", x.run(a & Integer.MAX_VALUE, 100),
                    y.run(a & Integer.MAX_VALUE, 100));
            default -> Due.is("learn", x.learn(a), y.learn(a));
        }
    }

    private static int ask(InvariantLearner x, int which) {
        int a = any();
        int b = any();
        boolean isShort = random.nextBoolean();
        return switch (which) {
            case 0 -> x.fault(a);
            case 1 -> Tape.value(x, a, b);
            case 2 -> x.stateOf(a, b, any());
            case 3 -> x.is(a, b);
            case 4 -> x.next(a, b);
            case 5 -> x.holds(a, b);
            case 6 -> x.many(a);
            case 7 -> x.ended();
            case 8 -> x.brought(a);
            case 9 -> x.point(a, b);
            case 10 -> x.pair(a, b);
            case 11 -> x.node(a, b);
            case 12 -> x.cost(a);
            case 13 -> x.trace(a);
            case 14 -> x.rows(a, isShort);
            case 15 -> x.row(a, b, isShort);
            case 16 -> x.shortMany();
            case 17 -> x.together(a);
            case 18 -> x.togetherProves() + x.bySteps();
            case 19 -> x.ifLearned(a, b, any(), any());
            case 20 -> x.needed(a, b);
            default -> x.count(a);
        };
    }

    private static long digest(InvariantLearner x) {
        long sum = x.ended() + 31 * x.shortMany() + 37 * x.bySteps() + 41 * x.togetherProves();
        for (int a = 0; a < 60; a++) {
            sum = sum * 31 + x.fault(a) + 3 * x.many(a) + 5 * x.brought(a) + 7 * x.cost(a)
                    + 11 * x.trace(a) + 13 * x.rows(a, true) + 17 * x.rows(a, false)
                    + 19 * x.together(a) + 23 * x.count(a);
            for (int b = 0; b < 8; b++) {
                sum = sum * 31 + x.is(a, b) + 3 * x.next(a, b) + 5 * x.holds(b, a)
                        + 7 * x.point(a, b) + 11 * x.pair(a, b) + 13 * x.node(a, b)
                        + 17 * x.row(a, b, true) + 19 * x.row(a, b, false);
            }
        }
        return sum;
    }
}
