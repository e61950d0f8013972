import java.util.ArrayList;
import java.util.Arrays;
import java.util.List;
import java.util.TreeMap;
import java.util.TreeSet;

/**
 * The document once more, as plainly as it can be written and as slow as it likes: with lists,
 * recursion and no tables. The class is compared with it over drawn systems.
 */
final class Model {
    static final List<String> WORDS =
            List.of("var", "start", "bad", "step", "if", "set", "test", "and");

    /** A FAULT of a text. */
    static final class Fault extends RuntimeException {
        final int which;
        final int place;

        Fault(int which, int place) {
            this.which = which;
            this.place = place;
        }
    }

    record Token(char kind, String signs, int place) {
    }

    record Term(int factor, int variable) {
    }

    record Atom(List<Term> left, char sign, List<Term> right) {
    }

    static final class Step {
        List<Atom> guard = new ArrayList<>();
        TreeMap<Integer, List<Term>> sets = new TreeMap<>();
    }

    static final class Node {
        int number;
        int which;
        int test = -2;
        int depth;
        int had;
        Node holds;
        Node not;
    }

    int lines;
    List<String> names = new ArrayList<>();
    List<Integer> least = new ArrayList<>();
    List<Integer> greatest = new ArrayList<>();
    List<List<Atom>> starts = new ArrayList<>();
    List<List<Atom>> bads = new ArrayList<>();
    List<Step> steps = new ArrayList<>();
    List<Atom> tests = new ArrayList<>();
    List<int[]> states = new ArrayList<>();

    List<Integer> points = new ArrayList<>();
    List<Integer> told = new ArrayList<>();
    List<int[]> pairs = new ArrayList<>();
    List<Node> nodes = new ArrayList<>();
    int care;
    int order;
    int without = -1;
    int end;
    int rounds;
    int[] brought = {0, -2, -2};

    private List<Token> tokens = new ArrayList<>();
    private int at;

    // ---- the text

    Model(String text) {
        cut(text);
        while (token().kind != 'E') {
            line();
            need(';');
            lines++;
        }
        fillStates(0, new int[names.size()]);
    }

    private void cut(String text) {
        int i = 0;
        while (i < text.length()) {
            char c = text.charAt(i);
            int j = i + 1;
            if (c == 10 || c == 32) {
                i++;
                continue;
            }
            char kind = c;
            if (c >= 'a' && c <= 'z') {
                while (j < text.length() && text.charAt(j) >= 'a' && text.charAt(j) <= 'z') {
                    j++;
                }
                kind = j - i > 6 ? '?' : 'W';
            } else if (c >= '0' && c <= '9') {
                while (j < text.length() && text.charAt(j) >= '0' && text.charAt(j) <= '9') {
                    j++;
                }
                kind = 'N';
            } else if (";<=>+-*".indexOf(c) < 0) {
                kind = '?';
            }
            tokens.add(new Token(kind, text.substring(i, j), i));
            i = j;
        }
        tokens.add(new Token('E', "", text.length()));
    }

    private Token token() {
        return tokens.get(at);
    }

    private void need(char kind) {
        if (token().kind != kind) {
            throw new Fault(1, token().place);
        }
        at++;
    }

    private boolean isWord(String word) {
        return token().kind == 'W' && token().signs.equals(word);
    }

    private void line() {
        Token t = token();
        if (t.kind != 'W') {
            throw new Fault(1, t.place);
        }
        switch (t.signs) {
            case "var" -> var();
            case "start" -> clause(starts, 4);
            case "bad" -> clause(bads, 4);
            case "step" -> {
                limit(steps.size(), 8);
                Step step = new Step();
                steps.add(step);
                if (isWord("if")) {
                    at++;
                    step.guard = condition();
                }
            }
            case "set" -> set();
            case "test" -> {
                limit(tests.size(), 16);
                tests.add(atom());
            }
            default -> throw new Fault(1, t.place);
        }
    }

    private void limit(int there, int most) {
        if (there == most) {
            throw new Fault(2, token().place);
        }
        at++;
    }

    private void clause(List<List<Atom>> all, int most) {
        limit(all.size(), most);
        all.add(condition());
    }

    private void var() {
        if (starts.size() + bads.size() + steps.size() + tests.size() > 0) {
            throw new Fault(1, token().place);
        }
        limit(names.size(), 3);
        Token w = token();
        if (w.kind != 'W' || WORDS.contains(w.signs)) {
            throw new Fault(1, w.place);
        }
        if (names.contains(w.signs)) {
            throw new Fault(3, w.place);
        }
        at++;
        int low = ranged(-20);
        int place = token().place;
        int high = ranged(low);
        long all = high - low + 1;
        for (int v = 0; v < names.size(); v++) {
            all *= greatest.get(v) - least.get(v) + 1;
        }
        if (all > 600) {
            throw new Fault(2, place);
        }
        names.add(w.signs);
        least.add(low);
        greatest.add(high);
    }

    private int ranged(int low) {
        int place = token().place;
        boolean minus = token().kind == '-';
        if (minus) {
            at++;
        }
        if (token().kind != 'N') {
            throw new Fault(1, token().place);
        }
        java.math.BigInteger n = new java.math.BigInteger((minus ? "-" : "") + token().signs);
        if (n.compareTo(java.math.BigInteger.valueOf(low)) < 0
                || n.compareTo(java.math.BigInteger.valueOf(20)) > 0) {
            throw new Fault(2, place);
        }
        at++;
        return n.intValue();
    }

    private void set() {
        if (steps.isEmpty()) {
            throw new Fault(1, token().place);
        }
        at++;
        int v = variable();
        Step step = steps.get(steps.size() - 1);
        if (step.sets.containsKey(v)) {
            throw new Fault(3, token().place);
        }
        at++;
        need('=');
        step.sets.put(v, expression());
    }

    private int variable() {
        if (token().kind != 'W' || !names.contains(token().signs)) {
            throw new Fault(1, token().place);
        }
        return names.indexOf(token().signs);
    }

    private List<Atom> condition() {
        List<Atom> all = new ArrayList<>();
        all.add(atom());
        while (isWord("and")) {
            at++;
            if (all.size() == 8) {
                tooMuch();
            }
            all.add(atom());
        }
        return all;
    }

    private Atom atom() {
        List<Term> left = expression();
        char sign = token().kind;
        if (sign != '<' && sign != '=' && sign != '>') {
            throw new Fault(1, token().place);
        }
        at++;
        return new Atom(left, sign, expression());
    }

    private void tooMuch() {
        if (token().kind != 'N') {
            variable();
        }
        throw new Fault(2, token().place);
    }

    private List<Term> expression() {
        List<Term> all = new ArrayList<>();
        int sign = 1;
        while (true) {
            if (all.size() == 12) {
                tooMuch();
            }
            all.add(term(sign));
            if (token().kind != '+' && token().kind != '-') {
                return all;
            }
            sign = token().kind == '+' ? 1 : -1;
            at++;
        }
    }

    private Term term(int sign) {
        int factor = 1;
        if (token().kind == 'N') {
            if (new java.math.BigInteger(token().signs).bitLength() > 7
                    || Integer.parseInt(token().signs) > 99) {
                throw new Fault(2, token().place);
            }
            factor = Integer.parseInt(token().signs);
            at++;
            if (token().kind != '*') {
                return new Term(sign * factor, -1);
            }
            at++;
        }
        int v = variable();
        at++;
        return new Term(sign * factor, v);
    }

    // ---- states and steps

    private void fillStates(int v, int[] values) {
        if (v == names.size()) {
            states.add(values.clone());
            return;
        }
        for (int x = least.get(v); x <= greatest.get(v); x++) {
            values[v] = x;
            fillStates(v + 1, values);
        }
    }

    int stateOf(int... values) {
        for (int s = 0; s < states.size(); s++) {
            if (Arrays.equals(states.get(s), Arrays.copyOf(values, names.size()))) {
                return s;
            }
        }
        return -1;
    }

    private int sum(List<Term> terms, int s) {
        int sum = 0;
        for (Term t : terms) {
            sum += t.factor * (t.variable < 0 ? 1 : states.get(s)[t.variable]);
        }
        return sum;
    }

    private boolean isSo(Atom a, int s) {
        int left = sum(a.left, s);
        int right = sum(a.right, s);
        return a.sign == '<' ? left < right : a.sign == '=' ? left == right : left > right;
    }

    private boolean allSo(List<Atom> atoms, int s) {
        return atoms.stream().allMatch(a -> isSo(a, s));
    }

    boolean isStart(int s) {
        return starts.stream().anyMatch(c -> allSo(c, s));
    }

    boolean isBad(int s) {
        return bads.stream().anyMatch(c -> allSo(c, s));
    }

    private final java.util.HashMap<Integer, Boolean> heldTests = new java.util.HashMap<>();

    boolean holds(int test, int s) {
        return heldTests.computeIfAbsent(test * 1000 + s, k -> isSo(tests.get(test), s));
    }

    private final java.util.HashMap<Integer, Integer> nexts = new java.util.HashMap<>();

    int next(int s, int k) {
        return nexts.computeIfAbsent(k * 1000 + s, key -> {
            Step step = steps.get(k);
            if (!allSo(step.guard, s)) {
                return -2;
            }
            int[] values = states.get(s).clone();
            for (int v : step.sets.keySet()) {
                values[v] = sum(step.sets.get(v), s);
            }
            int target = stateOf(values);
            return target < 0 ? -2 : target;
        });
    }

    List<Integer> nextStates(int s) {
        List<Integer> all = new ArrayList<>();
        for (int k = 0; k < steps.size(); k++) {
            if (next(s, k) >= 0) {
                all.add(next(s, k));
            }
        }
        return all;
    }

    TreeSet<Integer> comeTo() {
        TreeSet<Integer> all = new TreeSet<>();
        for (int s = 0; s < states.size(); s++) {
            if (isStart(s)) {
                all.add(s);
            }
        }
        boolean more = true;
        while (more) {
            TreeSet<Integer> found = new TreeSet<>();
            for (int s : all) {
                found.addAll(nextStates(s));
            }
            more = all.addAll(found);
        }
        return all;
    }

    TreeSet<Integer> doomed() {
        TreeSet<Integer> all = new TreeSet<>();
        for (int s = 0; s < states.size(); s++) {
            if (isBad(s)) {
                all.add(s);
            }
        }
        boolean more = true;
        while (more) {
            more = false;
            for (int s = 0; s < states.size(); s++) {
                if (!all.contains(s) && nextStates(s).stream().anyMatch(all::contains)) {
                    more |= all.add(s);
                }
            }
        }
        return all;
    }

    // ---- points and trees

    /** Lets labels follow by pairs, again and again over all of them. */
    private void follow(int[] labels) {
        boolean more = true;
        while (more) {
            more = false;
            for (int[] pair : pairs) {
                int good = labels[pair[1]] | (labels[pair[0]] & 1);
                int bad = labels[pair[0]] | (labels[pair[1]] & 2);
                if (good != labels[pair[1]] || bad != labels[pair[0]]) {
                    labels[pair[1]] = good;
                    labels[pair[0]] |= bad;
                    more = true;
                }
            }
        }
    }

    int[] labels() {
        int[] labels = new int[points.size()];
        for (int p = 0; p < labels.length; p++) {
            labels[p] = told.get(p);
        }
        follow(labels);
        return labels;
    }

    /** The cost of a test for some points, -2 if it doesn't part them. */
    int cost(int test, List<Integer> some, int[] labels) {
        int[] good = new int[2];
        int[] bad = new int[2];
        int[] all = new int[2];
        for (int p : some) {
            int side = holds(test, points.get(p)) ? 1 : 0;
            all[side]++;
            good[side] += labels[p] == 1 || labels[p] == 3 ? 1 : 0;
            bad[side] += labels[p] >= 2 ? 1 : 0;
        }
        if (all[0] == 0 || all[1] == 0) {
            return -2;
        }
        int crossing = 0;
        for (int[] pair : pairs) {
            if (some.contains(pair[0]) && some.contains(pair[1])
                    && holds(test, points.get(pair[0])) != holds(test, points.get(pair[1]))) {
                crossing++;
            }
        }
        return 4 * (good[0] * bad[0] + good[1] * bad[1]) + crossing;
    }

    int rootCost(int test) {
        return cost(test, everyPoint(), labels());
    }

    private List<Integer> everyPoint() {
        List<Integer> all = new ArrayList<>();
        for (int p = 0; p < points.size(); p++) {
            all.add(p);
        }
        return all;
    }

    /** Null if it is stuck. */
    private Node fit(List<Integer> some, int depth, int[] labels, List<Node> made) {
        boolean good = some.stream().anyMatch(p -> (labels[p] & 1) != 0);
        boolean bad = some.stream().anyMatch(p -> (labels[p] & 2) != 0);
        Node node = new Node();
        node.number = made.size();
        node.depth = depth;
        node.had = some.size();
        made.add(node);
        if (!good || !bad) {
            node.which = !good && !bad ? 1 - care : good ? 1 : 0;
            for (int p : some) {
                labels[p] |= node.which == 1 ? 1 : 2;
            }
            follow(labels);
            return node;
        }
        int best = -2;
        for (int t = 0; t < tests.size(); t++) {
            int price = t == without ? -2 : cost(t, some, labels);
            if (price >= 0 && (best < 0 || price < best)) {
                best = price;
                node.test = t;
            }
        }
        if (best < 0) {
            return null;
        }
        node.which = 2;
        List<Integer> yes = new ArrayList<>();
        List<Integer> no = new ArrayList<>();
        for (int p : some) {
            (holds(node.test, points.get(p)) ? yes : no).add(p);
        }
        node.holds = fit(yes, depth + 1, labels, made);
        node.not = node.holds == null ? null : fit(no, depth + 1, labels, made);
        return node.not == null ? null : node;
    }

    List<Node> path(int s) {
        List<Node> path = new ArrayList<>();
        Node n = nodes.isEmpty() ? null : nodes.get(0);
        while (n != null) {
            path.add(n);
            n = n.which != 2 ? null : holds(n.test, s) ? n.holds : n.not;
        }
        return path;
    }

    boolean held(int s) {
        List<Node> path = path(s);
        return !path.isEmpty() && path.get(path.size() - 1).which == 1;
    }

    // ---- rounds and runs

    int learn(int n) {
        int done = 0;
        while (done < n && end == 0) {
            round();
            done++;
        }
        return done;
    }

    private void round() {
        rounds++;
        brought = new int[] {0, -2, -2};
        int[] labels = labels();
        for (int p = 0; p < points.size(); p++) {
            if (told.get(p) >= 2 && labels[p] == 3) {
                end = 2;
                return;
            }
        }
        List<Node> made = new ArrayList<>();
        if (fit(everyPoint(), 0, labels, made) == null) {
            end = 3;
            return;
        }
        nodes = made;
        ask();
    }

    private void ask() {
        List<Integer> ordered = new ArrayList<>();
        for (int s = 0; s < states.size(); s++) {
            ordered.add(order == 0 ? s : 0, s);
        }
        for (int s : ordered) {
            if (isStart(s) && !held(s)) {
                bringOne(s, 1, 1);
                return;
            }
        }
        for (int s : ordered) {
            if (isBad(s) && held(s)) {
                bringOne(s, 2, 2);
                return;
            }
        }
        for (int s : ordered) {
            for (int target : nextStates(s)) {
                if (held(s) && !held(target)) {
                    bringPair(s, target);
                    return;
                }
            }
        }
        end = 1;
    }

    private void bringOne(int s, int kind, int label) {
        int p = points.indexOf(s);
        if (p < 0 && points.size() == 200) {
            end = 4;
            return;
        }
        p = tell(s, label);
        brought = new int[] {kind, p, -2};
    }

    private int tell(int s, int label) {
        if (!points.contains(s)) {
            points.add(s);
            told.add(0);
        }
        int p = points.indexOf(s);
        told.set(p, told.get(p) | label);
        return p;
    }

    private void bringPair(int s, int target) {
        TreeSet<Integer> all = new TreeSet<>(points);
        all.add(s);
        all.add(target);
        if (all.size() > 200 || pairs.size() == 300) {
            end = 4;
            return;
        }
        int first = tell(s, 0);
        int second = tell(target, 0);
        pairs.add(new int[] {first, second});
        brought = new int[] {3, first, second};
    }

    int run(long seed, int n) {
        List<Integer> begin = new ArrayList<>();
        for (int s = 0; s < states.size(); s++) {
            if (isStart(s)) {
                begin.add(s);
            }
        }
        if (seed < 0 || n < 0 || n > 100 || begin.isEmpty() || end != 0) {
            return -1;
        }
        long[] x = {seed};
        List<Integer> way = new ArrayList<>();
        int s = begin.get(drawn(x, begin.size()));
        way.add(s);
        for (int k = 0; k < n && !nextStates(s).isEmpty(); k++) {
            s = nextStates(s).get(drawn(x, nextStates(s).size()));
            way.add(s);
        }
        for (int w : way) {
            int p = points.indexOf(w);
            if (p < 0 && points.size() == 200) {
                return -1;
            }
            if (p < 0 || (told.get(p) & 1) == 0) {
                return tell(w, 1);
            }
        }
        return -2;
    }

    private int drawn(long[] x, int of) {
        x[0] = java.math.BigInteger.valueOf(x[0]).multiply(java.math.BigInteger.valueOf(1103515245))
                .add(java.math.BigInteger.valueOf(12345))
                .mod(java.math.BigInteger.valueOf(2147483648L)).longValue();
        return (int) ((x[0] / 65536) % of);
    }

    List<Integer> trace() {
        for (int length = 0; length <= points.size(); length++) {
            for (int p = 0; p < points.size(); p++) {
                if ((told.get(p) & 1) != 0) {
                    List<Integer> way = way(p, length, new TreeSet<>());
                    if (way != null) {
                        return way;
                    }
                }
            }
        }
        return null;
    }

    /** The least way of so many pairs from a point to one told bad; vain ones are remembered. */
    private List<Integer> way(int p, int length, TreeSet<Integer> vain) {
        if (length == 0) {
            return told.get(p) >= 2 ? new ArrayList<>(List.of(p)) : null;
        }
        if (vain.contains(p * 1000 + length)) {
            return null;
        }
        TreeSet<Integer> onwards = new TreeSet<>();
        for (int[] pair : pairs) {
            if (pair[0] == p) {
                onwards.add(pair[1]);
            }
        }
        for (int q : onwards) {
            List<Integer> rest = way(q, length - 1, vain);
            if (rest != null) {
                rest.add(0, p);
                return rest;
            }
        }
        vain.add(p * 1000 + length);
        return null;
    }

    // ---- rows and proofs

    List<List<Integer>> rows() {
        List<List<Integer>> all = new ArrayList<>();
        if (!nodes.isEmpty()) {
            rowsBelow(nodes.get(0), new ArrayList<>(), all);
        }
        return all;
    }

    private void rowsBelow(Node n, List<Integer> above, List<List<Integer>> all) {
        if (n.which == 1) {
            all.add(new ArrayList<>(above));
        }
        if (n.which == 2) {
            above.add(100 + n.test);
            rowsBelow(n.holds, above, all);
            above.set(above.size() - 1, n.test);
            rowsBelow(n.not, above, all);
            above.remove(above.size() - 1);
        }
    }

    boolean rowsHold(List<List<Integer>> rows, int s) {
        return rows.stream().anyMatch(
                row -> row.stream().allMatch(e -> holds(e % 100, s) == (e >= 100)));
    }

    boolean proves(List<List<Integer>> rows) {
        boolean[] in = new boolean[states.size()];
        for (int s = 0; s < in.length; s++) {
            in[s] = rowsHold(rows, s);
        }
        for (int s = 0; s < in.length; s++) {
            if (isStart(s) && !in[s] || isBad(s) && in[s]) {
                return false;
            }
            if (in[s] && nextStates(s).stream().anyMatch(t -> !in[t])) {
                return false;
            }
        }
        return true;
    }

    List<List<Integer>> shorter() {
        List<List<Integer>> rows = rows();
        for (List<Integer> row : rows) {
            for (Integer e : new ArrayList<>(row)) {
                int i = row.indexOf(e);
                row.remove(i);
                if (!proves(rows)) {
                    row.add(i, e);
                }
            }
        }
        for (int k = 0; k < rows.size();) {
            List<Integer> row = rows.remove(k);
            if (!proves(rows)) {
                rows.add(k, row);
                k++;
            }
        }
        return rows;
    }

    /** Tests that hold as 100 and more, that don't as 0 and more. */
    List<Integer> together() {
        List<Integer> all = new ArrayList<>();
        for (int t = 0; t < tests.size(); t++) {
            all.add(t);
            all.add(100 + t);
        }
        List<Integer> come = new ArrayList<>();
        for (int s = 0; s < states.size(); s++) {
            if (isStart(s)) {
                come.add(s);
            }
        }
        boolean more = true;
        while (more) {
            List<Integer> reached = come;
            all.removeIf(e -> reached.stream().anyMatch(s -> holds(e % 100, s) != (e >= 100)));
            come = new ArrayList<>();
            for (int s = 0; s < states.size(); s++) {
                if (rowsHold(List.of(all), s)) {
                    come.addAll(nextStates(s));
                }
            }
            List<Integer> further = come;
            more = all.stream().anyMatch(
                    e -> further.stream().anyMatch(s -> holds(e % 100, s) != (e >= 100)));
        }
        return all;
    }

    int bySteps() {
        if (comeTo().stream().anyMatch(this::isBad)) {
            return -2;
        }
        for (int k = 1; k <= 20; k++) {
            boolean found = false;
            for (int s = 0; s < states.size() && !found; s++) {
                found = leadsToBad(s, k, new TreeSet<>());
            }
            if (!found) {
                return k;
            }
        }
        return -2;
    }

    /** Whether k states that aren't bad, this one first, are followed by a bad one. */
    private boolean leadsToBad(int s, int k, TreeSet<Integer> vain) {
        if (k == 0) {
            return isBad(s);
        }
        if (isBad(s) || !vain.add(s * 100 + k)) {
            return false;
        }
        return nextStates(s).stream().anyMatch(t -> leadsToBad(t, k - 1, vain));
    }

    /** Learned from the beginning: end, rounds, points, nodes. */
    int[] ifLearned(int care, int order, int without) {
        points = new ArrayList<>();
        told = new ArrayList<>();
        pairs = new ArrayList<>();
        nodes = new ArrayList<>();
        end = 0;
        rounds = 0;
        this.care = care;
        this.order = order;
        this.without = without;
        learn(100);
        return new int[] {end, rounds, points.size(), nodes.size()};
    }
}
