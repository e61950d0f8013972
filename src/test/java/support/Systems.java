import java.util.ArrayList;
import java.util.List;
import java.util.Random;

/** Draws texts of systems. */
final class Systems {
    private static final String[] NAMES = {"x", "y", "abcdef"};

    private final Random random;
    private final List<String> names = new ArrayList<>();
    private final List<Integer> least = new ArrayList<>();
    private final List<Integer> greatest = new ArrayList<>();

    private Systems(Random random) {
        this.random = random;
    }

    /** A text without a fault and of 900 signs at most. */
    static String draw(Random random) {
        while (true) {
            String text = new Systems(random).text();
            if (text.length() <= 900) {
                return text;
            }
        }
    }

    private int below(int n) {
        return random.nextInt(n);
    }

    private String text() {
        StringBuilder text = new StringBuilder();
        int variables = below(20) == 0 ? 0 : 1 + below(3);
        int most = below(3) == 0 ? 600 : 60;
        int all = 1;
        for (int v = 0; v < variables; v++) {
            int low = below(2) == 0 ? 0 : below(15) - 10;
            int size = 1 + below(Math.max(1, Math.min(Math.min(most / all, 20 - low + 1), 21)));
            names.add(NAMES[v]);
            least.add(low);
            greatest.add(low + size - 1);
            all *= size;
            text.append("var ").append(NAMES[v]).append(' ').append(low).append(' ')
                    .append(low + size - 1).append(";\n");
        }
        List<String> lines = new ArrayList<>();
        for (int i = below(8) == 0 ? 0 : 1 + below(2); i > 0; i--) {
            lines.add("start " + (below(3) == 0 ? condition(2) : place()) + ";");
        }
        for (int i = below(8) == 0 ? 0 : 1 + below(2); i > 0; i--) {
            lines.add("bad " + (below(2) == 0 ? condition(2) : place()) + ";");
        }
        for (int i = below(9); i > 0; i--) {
            lines.add(step());
        }
        for (int i = below(3) == 0 ? 16 : below(17); i > 0; i--) {
            lines.add("test " + atom() + ";");
        }
        java.util.Collections.shuffle(lines, random);
        for (String line : lines) {
            text.append(line);
        }
        return text.toString();
    }

    private String place() {
        StringBuilder text = new StringBuilder();
        for (int v = 0; v < names.size(); v++) {
            text.append(v == 0 ? "" : " and ").append(names.get(v)).append("=").append(number(v));
        }
        return names.isEmpty() ? "1=1" : text.toString();
    }

    /** A value of a variable, as an expression: a negative one as a difference. */
    private String number(int v) {
        int value = least.get(v) + below(greatest.get(v) - least.get(v) + 1);
        return value < 0 ? "0-" + -value : "" + value;
    }

    private String condition(int most) {
        StringBuilder text = new StringBuilder(atom());
        for (int i = below(most); i > 0; i--) {
            text.append(" and ").append(atom());
        }
        return text.toString();
    }

    private String atom() {
        String sign = "<=>".substring(below(3)).substring(0, 1);
        if (names.isEmpty()) {
            return below(5) + sign + below(5);
        }
        int v = below(names.size());
        return switch (below(5)) {
            case 0, 1, 2 -> names.get(v) + sign + number(v);
            case 3 -> names.get(v) + sign + names.get(below(names.size())) + "+" + below(4);
            default -> expression() + sign + expression();
        };
    }

    private String term() {
        if (names.isEmpty() || below(3) == 0) {
            return "" + below(10);
        }
        String name = names.get(below(names.size()));
        return below(4) == 0 ? below(4) + "*" + name : name;
    }

    private String expression() {
        StringBuilder text = new StringBuilder(term());
        for (int i = below(3); i > 0; i--) {
            text.append(below(2) == 0 ? "+" : "-").append(term());
        }
        return text.toString();
    }

    private String step() {
        StringBuilder text = new StringBuilder("step");
        if (below(2) == 0) {
            text.append(" if ").append(condition(2));
        }
        text.append(";");
        for (int v = 0; v < names.size(); v++) {
            String name = names.get(v);
            switch (below(5)) {
                case 0 -> text.append("set ").append(name).append("=").append(expression())
                        .append(";");
                case 1, 2 -> text.append("set ").append(name).append("=").append(name)
                        .append(below(2) == 0 ? "+" : "-").append(1 + below(3)).append(";");
                default -> {
                }
            }
        }
        return text.toString();
    }
}
