import java.util.Random;

/**
 * Compares the class with the plain model over drawn systems and drawn calls. An object answers
 * far more than 512 calls here: nothing in the class counts calls.
 */
public final class ModelTest {
    private static final int SYSTEMS = 400;
    private static final int[] ENDS = new int[5];

    private static String where;
    private static InvariantLearner x;
    private static Model m;

    public static void main(String[] args) {
        int systems = args.length > 0 ? Integer.parseInt(args[0]) : SYSTEMS;
        int first = args.length > 1 ? Integer.parseInt(args[1]) : 0;
        for (int seed = first; seed < first + systems && Due.wrong() < 20; seed++) {
            Random random = new Random(seed);
            String text = Systems.draw(random);
            where = "system " + seed + ": ";
            m = new Model(text);
            // Most objects have had other systems ahead: nothing of those may be left.
            x = seed % 5 == 0 || x == null ? new InvariantLearner() : x;
            Tape.feed(x, text);
            due("text", x.text(text.length()), m.lines);
            compareWorld();
            compareLearning(random);
            compareOtherWays(text, random);
        }
        compareHard();
        compareLargest();
        System.out.println("ends none " + ENDS[0] + ", proved " + ENDS[1] + ", unsafe " + ENDS[2]
                + ", stuck " + ENDS[3] + ", full " + ENDS[4]);
        Due.end();
    }

    /** Systems that are learned long, in steps of a few rounds, with all ways compared. */
    private static void compareHard() {
        for (int i = 0; i < HardSystems.ALL.length && Due.wrong() < 20; i++) {
            HardSystems.Hard hard = HardSystems.ALL[i];
            where = "hard system " + i + ": ";
            m = new Model(hard.text());
            x = Tape.with(hard.text());
            compareWorld();
            m.care = hard.ways() / 2;
            m.order = hard.ways() % 2;
            x.ways(m.care, m.order);
            for (int call = 0; call < 100 && m.end == 0; call++) {
                due("learn(17)", x.learn(17), m.learn(17));
                compareLearned();
                compareTree();
            }
            due("ended()", x.ended(), hard.end());
            ENDS[m.end]++;
            compareTrace();
            compareRows();
            compareOtherWays(hard.text(), new Random(i));
        }
    }

    /** As much of all as there may be, and the last of 600 states a start, or a bad one. */
    private static void compareLargest() {
        String ranges = "var x 0 19;var y -4 10;var z 19 20;";
        String last = "x=19 and y=10 and z=20;";
        String first = "x=0 and y+4=0 and z=19;";
        StringBuilder rest = new StringBuilder();
        for (int i = 0; i < 3; i++) {
            rest.append("start x=").append(9 + i).append(" and y=0;bad x=").append(5 * i)
                    .append(" and y=9;");
        }
        for (int i = 0; i < 8; i++) {
            rest.append("step if x+y>").append(i).append(";set z=39-z;set ")
                    .append(i % 2 == 0 ? "x=x" : "y=y").append(i < 4 ? "+" : "-").append(1 + i / 3)
                    .append(";");
        }
        for (int i = 0; i < 16; i++) {
            rest.append("test ").append(i % 2 == 0 ? "x" : "y").append(i % 3 == 0 ? ">" : "<")
                    .append(i).append(";");
        }
        String[] texts = {ranges + "start " + last + "bad " + first + rest,
            ranges + "start " + first + "bad " + last + rest,
            ranges + "start " + last + "bad " + first + "step if x>10;set x=x-1;test x<12;test x<9;"
                    + "test y<2;",
            ranges + "start " + first + "bad " + last + "step if x<9;set x=x+1;test x>7;test x>9;"};
        for (String text : texts) {
            where = "largest system: ";
            for (int ways = 0; ways < 4; ways++) {
                m = new Model(text);
                Tape.feed(x, text);
                due("text", x.text(text.length()), m.lines);
                due("many(0)", x.many(0), 600);
                compareWorld();
                x.ways(ways / 2, ways % 2);
                m.care = ways / 2;
                m.order = ways % 2;
                compareLearning(new Random(ways));
                compareOtherWays(text, new Random(ways));
            }
        }
    }

    private static void due(String call, int got, int want) {
        Due.is(where + call, got, want);
    }

    private static void due(String call, int got, boolean want) {
        Due.is(where + call, got, want ? 1 : 0);
    }

    private static void compareWorld() {
        due("count(0)", x.count(0), m.names.size());
        due("count(1)", x.count(1), m.starts.size());
        due("count(2)", x.count(2), m.bads.size());
        due("count(3)", x.count(3), m.steps.size());
        due("count(4)", x.count(4), m.tests.size());
        int all = m.states.size();
        int starts = 0;
        int bads = 0;
        var comeTo = m.comeTo();
        var doomed = m.doomed();
        for (int s = 0; s < all; s++) {
            String of = "(" + s + ")";
            int[] v = {77, 77, 77};
            for (int i = 0; i < m.names.size(); i++) {
                v[i] = m.states.get(s)[i];
                due("value" + of, Tape.value(x, s, i), v[i]);
            }
            due("stateOf" + of, x.stateOf(v[0], v[1], v[2]), s);
            due("is start" + of, x.is(s, 0), m.isStart(s));
            due("is bad" + of, x.is(s, 1), m.isBad(s));
            due("is come to" + of, x.is(s, 2), comeTo.contains(s));
            due("is doomed" + of, x.is(s, 3), doomed.contains(s));
            due("is with steps" + of, x.is(s, 6), m.nextStates(s).size());
            for (int k = 0; k < m.steps.size(); k++) {
                due("next" + of, x.next(s, k), m.next(s, k));
            }
            for (int t = 0; t < m.tests.size(); t++) {
                due("holds" + of, x.holds(t, s), m.holds(t, s));
            }
            starts += m.isStart(s) ? 1 : 0;
            bads += m.isBad(s) ? 1 : 0;
        }
        due("many(0)", x.many(0), all);
        due("many(1)", x.many(1), starts);
        due("many(2)", x.many(2), bads);
        due("many(3)", x.many(3), comeTo.size());
        due("many(4)", x.many(4), doomed.size());
        due("next of no state", x.next(all, 0), -1);
        due("next by no step", x.next(0, m.steps.size()), -1);
        due("holds in no state", x.holds(0, all), -1);
        due("holds of no test", x.holds(m.tests.size(), 0), -1);
        compareProofs();
    }

    private static void compareProofs() {
        var together = m.together();
        int[] bits = new int[2];
        for (int e : together) {
            bits[e / 100] |= 1 << (e % 100);
        }
        due("together(0)", x.together(0), bits[0]);
        due("together(1)", x.together(1), bits[1]);
        boolean proves = true;
        for (int s = 0; s < m.states.size(); s++) {
            proves &= !(m.isBad(s) && m.rowsHold(java.util.List.of(together), s));
        }
        due("togetherProves()", x.togetherProves(), proves);
        due("bySteps()", x.bySteps(), m.bySteps());
    }

    private static void compareLearning(Random random) {
        int eager = random.nextInt(3);
        for (int call = 0; call < 40; call++) {
            int what = random.nextInt(10);
            if (what < 2 || what < 6 && eager == 0) {
                int seed = random.nextInt() & Integer.MAX_VALUE;
                int n = random.nextInt(3) == 0 ? 100 : random.nextInt(6);
                due("run(" + seed + ", " + n + ")", x.run(seed, n), m.run(seed, n));
            } else if (what < 3) {
                int care = random.nextInt(2);
                int order = random.nextInt(2);
                due("ways", x.ways(care, order), 2 * m.care + m.order);
                m.care = care;
                m.order = order;
            } else {
                int n = 1 + random.nextInt(eager == 2 ? 30 : 3);
                due("learn(" + n + ")", x.learn(n), m.learn(n));
            }
            compareLearned();
        }
        ENDS[m.end]++;
        compareTree();
        compareTrace();
        compareRows();
    }

    private static void compareLearned() {
        due("ended()", x.ended(), m.end);
        for (int i = 0; i < 3; i++) {
            due("brought(" + i + ")", x.brought(i), m.brought[i]);
        }
        due("count(5)", x.count(5), m.points.size());
        due("count(6)", x.count(6), m.pairs.size());
        due("count(7)", x.count(7), m.nodes.size());
        due("count(8)", x.count(8), m.rounds);
        due("count(9)", x.count(9), m.care);
        due("count(10)", x.count(10), m.order);
        int[] labels = m.labels();
        for (int p = 0; p < labels.length; p++) {
            due("point(" + p + ", 0)", x.point(p, 0), m.points.get(p));
            due("point(" + p + ", 1)", x.point(p, 1), labels[p]);
            due("point(" + p + ", 2)", x.point(p, 2), m.told.get(p));
        }
        for (int t = 0; t < m.tests.size(); t++) {
            due("cost(" + t + ")", x.cost(t), m.rootCost(t));
        }
    }

    private static void compareTree() {
        int held = 0;
        for (int s = 0; s < m.states.size(); s++) {
            held += m.held(s) ? 1 : 0;
            due("is(" + s + ", 4)", x.is(s, 4), m.held(s));
            int p = m.points.indexOf(s);
            due("is(" + s + ", 5)", x.is(s, 5), p < 0 ? -2 : p);
        }
        due("many(5)", x.many(5), held);
        for (int q = 0; q < m.pairs.size(); q++) {
            due("pair(" + q + ", 0)", x.pair(q, 0), m.pairs.get(q)[0]);
            due("pair(" + q + ", 1)", x.pair(q, 1), m.pairs.get(q)[1]);
        }
        for (int i = 0; i < m.points.size(); i++) {
            int p = i;
            due("point 3", x.point(p, 3), (int) m.pairs.stream().filter(q -> q[0] == p).count());
            due("point 4", x.point(p, 4), (int) m.pairs.stream().filter(q -> q[1] == p).count());
        }
        for (Model.Node n : m.nodes) {
            String of = "node(" + n.number + ")";
            int come = 0;
            for (int s = 0; s < m.states.size(); s++) {
                come += m.path(s).contains(n) ? 1 : 0;
            }
            int[] want = {n.which, n.test, n.which == 2 ? n.holds.number : -2,
                n.which == 2 ? n.not.number : -2, n.had, n.depth, come};
            for (int i = 0; i < want.length; i++) {
                due(of + " " + i, x.node(n.number, i), want[i]);
            }
        }
        due("no point", x.point(m.points.size(), 0), -1);
        due("no pair", x.pair(m.pairs.size(), 0), -1);
        due("no node", x.node(m.nodes.size(), 0), -1);
    }

    private static void compareTrace() {
        if (m.end != 2) {
            due("trace(0)", x.trace(0), -1);
            return;
        }
        var trace = m.trace();
        for (int i = 0; i < trace.size(); i++) {
            due("trace(" + i + ")", x.trace(i), trace.get(i));
        }
        due("trace's end", x.trace(trace.size()), -2);
    }

    private static void compareRows() {
        boolean hasTree = !m.nodes.isEmpty();
        compareRows(m.rows(), hasTree, false);
        boolean isProved = m.end == 1;
        var shorter = isProved ? m.shorter() : null;
        compareRows(shorter, isProved, true);
        int held = 0;
        for (int s = 0; isProved && s < m.states.size(); s++) {
            held += m.rowsHold(shorter, s) ? 1 : 0;
        }
        due("shortMany()", x.shortMany(), isProved ? held : -2);
    }

    private static void compareRows(
            java.util.List<java.util.List<Integer>> rows, boolean areThere, boolean isShort) {
        String of = isShort ? " (short)" : "";
        if (!areThere) {
            due("rows(0)" + of, x.rows(0, isShort), -2);
            due("rows(1)" + of, x.rows(1, isShort), -2);
            due("row(0, 0)" + of, x.row(0, 0, isShort), -1);
            return;
        }
        due("rows(0)" + of, x.rows(0, isShort), rows.size());
        due("rows(1)" + of, x.rows(1, isShort), rows.stream().mapToInt(r -> r.size()).sum());
        for (int k = 0; k < rows.size(); k++) {
            for (int i = 0; i < rows.get(k).size(); i++) {
                due("row(" + k + ", " + i + ")" + of, x.row(k, i, isShort), rows.get(k).get(i));
            }
            due("row's end" + of, x.row(k, rows.get(k).size(), isShort), -2);
        }
        due("rows' end" + of, x.row(rows.size(), 0, isShort), -2);
    }

    private static void compareOtherWays(String text, Random random) {
        Model other = new Model(text);
        int care = random.nextInt(2);
        int order = random.nextInt(2);
        int needed = 0;
        for (int without = -1; without < m.tests.size(); without++) {
            int[] facts = other.ifLearned(care, order, without);
            for (int i = 0; i < 4; i++) {
                due("ifLearned(" + care + ", " + order + ", " + without + ", " + i + ")",
                        x.ifLearned(care, order, without, i), facts[i]);
            }
            needed += without >= 0 && facts[0] != 1 ? 1 : 0;
        }
        due("needed(" + care + ", " + order + ")", x.needed(care, order), needed);
        compareLearned();
        compareTree();
    }
}
