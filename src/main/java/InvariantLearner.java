import java.util.Arrays;
import java.util.NoSuchElementException;

/**
 * A learner of invariants: it reads a small system from a tape of bytes, learns a tree of the told
 * tests from points and pairs that a teacher brings, and tells what was learned. All rows are made
 * once, with the object, and used again: no call makes an object.
 */
public final class InvariantLearner {
    public static final int NONE = -1;

    private static final int NOTHING = -2;

    private static final int MAX_TAPE = 900;
    private static final int FEED_BYTES = 20;
    private static final int MAX_VARIABLES = 3;
    private static final int MAX_VALUE = 20;
    private static final int MAX_NUMBER = 99;
    private static final int MAX_LETTERS = 6;
    private static final int MAX_STATES = 600;
    private static final int MAX_STARTS = 4;
    private static final int MAX_BADS = 4;
    private static final int MAX_STEPS = 8;
    private static final int MAX_TESTS = 16;
    private static final int MAX_ATOMS = 8;
    private static final int MAX_TERMS = 12;
    private static final int MAX_POINTS = 200;
    private static final int MAX_PAIRS = 300;
    private static final int MAX_NODES = 2 * MAX_POINTS;
    private static final int MAX_ROUNDS = 100;
    private static final int MAX_RUN = 100;
    private static final int MAX_INDUCTION = 20;

    /** Conditions stand in one row: those of start, of bad, of the steps, then the tests. */
    private static final int BAD_SLOT = MAX_STARTS;
    private static final int STEP_SLOT = BAD_SLOT + MAX_BADS;
    private static final int TEST_SLOT = STEP_SLOT + MAX_STEPS;
    private static final int SLOTS = TEST_SLOT + MAX_TESTS;
    private static final int ALL_ATOMS =
            MAX_ATOMS * (MAX_STARTS + MAX_BADS + MAX_STEPS) + MAX_TESTS;

    /** An E is linear: a constant and one factor for each variable. */
    private static final int FORM = 1 + MAX_VARIABLES;

    private static final int IS_START = 1;
    private static final int IS_BAD = 2;
    private static final int IS_COME_TO = 4;
    private static final int IS_DOOMED = 8;

    private static final int GOOD = 1;
    private static final int BAD = 2;

    private static final int LEAF_NOT_SO = 0;
    private static final int LEAF_SO = 1;
    private static final int PARTED = 2;

    private static final int END_PROVED = 1;
    private static final int END_UNSAFE = 2;
    private static final int END_STUCK = 3;
    private static final int END_FULL = 4;

    private static final int BROUGHT_START = 1;
    private static final int BROUGHT_BAD = 2;
    private static final int BROUGHT_PAIR = 3;

    private static final int FAULT_TOKEN = 1;
    private static final int FAULT_TOO_MUCH = 2;
    private static final int FAULT_TOLD = 3;

    /** Kinds of tokens; a sign is its own kind, so these lie below all signs. */
    private static final int TOKEN_END = 0;
    private static final int TOKEN_WORD = 1;
    private static final int TOKEN_NUMBER = 2;
    private static final int TOKEN_WRONG = 3;
    private static final int TOKEN_BLANK = 4;

    /** The language's words, each letter a digit (a is 1) by 27: six letters fit in an int. */
    private static final int WORD_VAR = (22 * 27 + 1) * 27 + 18;
    private static final int WORD_START = (((19 * 27 + 20) * 27 + 1) * 27 + 18) * 27 + 20;
    private static final int WORD_BAD = (2 * 27 + 1) * 27 + 4;
    private static final int WORD_STEP = ((19 * 27 + 20) * 27 + 5) * 27 + 16;
    private static final int WORD_IF = 9 * 27 + 6;
    private static final int WORD_SET = (19 * 27 + 5) * 27 + 20;
    private static final int WORD_TEST = ((20 * 27 + 5) * 27 + 19) * 27 + 20;
    private static final int WORD_AND = (1 * 27 + 14) * 27 + 4;

    private static final int TRIALS = 4 * (MAX_TESTS + 1);
    private static final int TRIAL_FACTS = 4;

    private final byte[] tape;
    private int tapeLength;
    private final Plan plan;
    private final Reader reader;
    private int faultFound;
    private int faultPlace;
    private final World world;
    private final Learner learner;
    private final Learner trial;
    private final Fitter fitter;
    private final Shortener shortener;
    private final Proofs proofs;
    /** What other ways of learning took, kept as they are asked again and again for one text. */
    private final int[] trialFacts;
    private final boolean[] trialDone;

    public InvariantLearner() {
        tape = new byte[MAX_TAPE];
        tapeLength = 0;
        plan = new Plan();
        reader = new Reader(plan);
        faultFound = 0;
        faultPlace = NONE;
        world = new World();
        fitter = new Fitter(world);
        learner = new Learner(world, fitter);
        trial = new Learner(world, fitter);
        shortener = new Shortener(world);
        proofs = new Proofs(world);
        trialFacts = new int[TRIALS * TRIAL_FACTS];
        trialDone = new boolean[TRIALS];
        plan.clear();
        beginAnew();
    }

    public int feed(int a, int b, int c, int d, int e) {
        if (tapeLength + FEED_BYTES > MAX_TAPE) {
            return NONE;
        }
        append(a);
        append(b);
        append(c);
        append(d);
        append(e);
        return tapeLength;
    }

    public int text(int n) {
        if (n < 0 || n > tapeLength) {
            return NOTHING;
        }
        tapeLength = 0;
        int lines = reader.read(tape, n);
        faultFound = reader.fault;
        faultPlace = reader.faultPlace;
        if (faultFound != 0) {
            return NONE;
        }
        beginAnew();
        return lines;
    }

    public int fault(int what) {
        if (what == 0) {
            return faultFound;
        }
        return what == 1 ? faultPlace : NONE;
    }

    public int value(int state, int v) throws IndexOutOfBoundsException, NoSuchElementException {
        if (!world.hasState(state)) {
            throw new IndexOutOfBoundsException("no such state");
        }
        if (v < 0 || v >= world.variables) {
            throw new NoSuchElementException("no such variable");
        }
        return world.values[state * MAX_VARIABLES + v];
    }

    public int stateOf(int a, int b, int c) {
        return world.stateWith(a, b, c);
    }

    public int is(int state, int what) {
        if (!world.hasState(state)) {
            return NONE;
        }
        switch (what) {
            case 0:
                return world.flag(state, IS_START);
            case 1:
                return world.flag(state, IS_BAD);
            case 2:
                return world.flag(state, IS_COME_TO);
            case 3:
                return world.flag(state, IS_DOOMED);
            case 4:
                return learner.tree.accepts(world.testBits[state]) ? 1 : 0;
            case 5:
                return learner.samples.pointOf[state];
            case 6:
                return world.stepsFrom(state);
            default:
                return NONE;
        }
    }

    public int next(int state, int step) {
        if (!world.hasState(state) || step < 0 || step >= world.steps) {
            return NONE;
        }
        return world.targets[state * MAX_STEPS + step];
    }

    public int holds(int test, int state) {
        if (!world.hasTest(test) || !world.hasState(state)) {
            return NONE;
        }
        return (world.testBits[state] >> test) & 1;
    }

    public int many(int what) {
        switch (what) {
            case 0:
                return world.states;
            case 1:
                return world.flagged(IS_START);
            case 2:
                return world.flagged(IS_BAD);
            case 3:
                return world.flagged(IS_COME_TO);
            case 4:
                return world.flagged(IS_DOOMED);
            case 5:
                return learner.acceptedStates();
            default:
                return NONE;
        }
    }

    public int ways(int care, int order) {
        if (!isWay(care, order)) {
            return NONE;
        }
        int before = 2 * learner.care + learner.order;
        learner.care = care;
        learner.order = order;
        return before;
    }

    public int learn(int n) {
        if (n < 1 || n > MAX_ROUNDS) {
            return NONE;
        }
        return learner.doRounds(n);
    }

    public int ended() {
        return learner.end;
    }

    public int brought(int what) {
        switch (what) {
            case 0:
                return learner.broughtKind;
            case 1:
                return learner.broughtFirst;
            case 2:
                return learner.broughtSecond;
            default:
                return NONE;
        }
    }

    public int point(int i, int what) {
        Samples samples = learner.samples;
        if (i < 0 || i >= samples.points) {
            return NONE;
        }
        switch (what) {
            case 0:
                return samples.states[i];
            case 1:
                return fitter.labelOf(samples, i);
            case 2:
                return samples.told[i];
            case 3:
                return samples.pairsFrom(i);
            case 4:
                return samples.pairsTo(i);
            default:
                return NONE;
        }
    }

    public int pair(int i, int what) {
        Samples samples = learner.samples;
        if (i < 0 || i >= samples.pairs) {
            return NONE;
        }
        if (what == 0) {
            return samples.firsts[i];
        }
        return what == 1 ? samples.seconds[i] : NONE;
    }

    public int node(int i, int what) {
        Tree tree = learner.tree;
        if (i < 0 || i >= tree.nodes) {
            return NONE;
        }
        switch (what) {
            case 0:
                return tree.kinds[i];
            case 1:
                return tree.tests[i];
            case 2:
                return tree.holding[i];
            case 3:
                return tree.failing[i];
            case 4:
                return tree.had[i];
            case 5:
                return tree.depths[i];
            case 6:
                return learner.statesAt(i);
            default:
                return NONE;
        }
    }

    public int cost(int test) {
        if (!world.hasTest(test)) {
            return NONE;
        }
        return fitter.rootCost(learner.samples, test);
    }

    public int run(int seed, int n) {
        if (seed < 0 || n < 0 || n > MAX_RUN || learner.end != 0) {
            return NONE;
        }
        return learner.drawRun(seed, n);
    }

    public int trace(int i) {
        if (learner.end != END_UNSAFE || i < 0) {
            return NONE;
        }
        return learner.samples.onWay(i);
    }

    public int rows(int what, boolean isShort) {
        if (what < 0 || what > 1) {
            return NONE;
        }
        if (isShort) {
            if (!prepareShort()) {
                return NOTHING;
            }
            return what == 0 ? shortener.rowCount : shortener.entryCount();
        }
        if (learner.tree.nodes == 0) {
            return NOTHING;
        }
        return what == 0 ? learner.tree.leavesSo() : learner.tree.depthsSo();
    }

    public int row(int k, int i, boolean isShort) {
        if (k < 0 || i < 0) {
            return NONE;
        }
        if (isShort) {
            return prepareShort() ? shortener.entry(k, i) : NONE;
        }
        return learner.tree.nodes == 0 ? NONE : learner.tree.rowEntry(k, i);
    }

    public int shortMany() {
        return prepareShort() ? shortener.heldStates() : NOTHING;
    }

    public int together(int which) {
        if (which < 0 || which > 1) {
            return NONE;
        }
        proofs.keepTogether();
        return which == 1 ? proofs.holding : proofs.failing;
    }

    public int togetherProves() {
        proofs.keepTogether();
        return proofs.excludesBad() ? 1 : 0;
    }

    public int bySteps() {
        return proofs.leastInduction();
    }

    public int ifLearned(int care, int order, int without, int what) {
        if (!isWay(care, order) || what < 0 || what >= TRIAL_FACTS) {
            return NONE;
        }
        if (without != NONE && !world.hasTest(without)) {
            return NONE;
        }
        return trialFact(care, order, without, what);
    }

    public int needed(int care, int order) {
        if (!isWay(care, order)) {
            return NONE;
        }
        int found = 0;
        for (int test = 0; test < world.tests; test++) {
            if (trialFact(care, order, test, 0) != END_PROVED) {
                found++;
            }
        }
        return found;
    }

    public int count(int what) {
        switch (what) {
            case 0:
                return world.variables;
            case 1:
                return world.starts;
            case 2:
                return world.bads;
            case 3:
                return world.steps;
            case 4:
                return world.tests;
            case 5:
                return learner.samples.points;
            case 6:
                return learner.samples.pairs;
            case 7:
                return learner.tree.nodes;
            case 8:
                return learner.rounds;
            case 9:
                return learner.care;
            case 10:
                return learner.order;
            case 11:
                return tapeLength;
            default:
                return NONE;
        }
    }

    private void append(int number) {
        for (int shift = 24; shift >= 0 && tapeLength < MAX_TAPE; shift -= 8) {
            tape[tapeLength] = (byte) (number >> shift);
            tapeLength++;
        }
    }

    private void beginAnew() {
        world.build(plan);
        learner.begin(0, 0, world.allTests());
        shortener.isReady = false;
        proofs.isReady = false;
        for (int i = 0; i < TRIALS; i++) {
            trialDone[i] = false;
        }
    }

    private boolean prepareShort() {
        if (learner.end != END_PROVED) {
            return false;
        }
        if (!shortener.isReady) {
            shortener.shorten(learner.tree);
        }
        return true;
    }

    private int trialFact(int care, int order, int without, int what) {
        int way = (2 * care + order) * (MAX_TESTS + 1) + without + 1;
        if (way < 0 || way >= TRIALS || what < 0 || what >= TRIAL_FACTS) {
            return NONE;
        }
        int at = way * TRIAL_FACTS;
        if (!trialDone[way]) {
            int all = world.allTests();
            trial.begin(care, order, without < 0 ? all : all & ~(1 << without));
            trial.doRounds(MAX_ROUNDS);
            trialFacts[at] = trial.end;
            trialFacts[at + 1] = trial.rounds;
            trialFacts[at + 2] = trial.samples.points;
            trialFacts[at + 3] = trial.tree.nodes;
            trialDone[way] = true;
        }
        return trialFacts[at + what];
    }

    private static boolean isWay(int care, int order) {
        return care >= 0 && care <= 1 && order >= 0 && order <= 1;
    }

    /** What a TEXT tells, in the plain form from which the world's tables are made. */
    private static final class Plan {
        int variables;
        int starts;
        int bads;
        int steps;
        int tests;
        int atoms;
        int states;
        boolean hasOthers;
        final int[] least = new int[MAX_VARIABLES];
        final int[] greatest = new int[MAX_VARIABLES];
        /** An A is kept as what is left of its sign less what is right of it, against 0. */
        final int[] atomForms = new int[ALL_ATOMS * FORM];
        final int[] atomSigns = new int[ALL_ATOMS];
        final int[] slotFrom = new int[SLOTS];
        final int[] slotTo = new int[SLOTS];
        final int[] setForms = new int[MAX_STEPS * MAX_VARIABLES * FORM];
        final boolean[] isSet = new boolean[MAX_STEPS * MAX_VARIABLES];

        void clear() {
            variables = 0;
            starts = 0;
            bads = 0;
            steps = 0;
            tests = 0;
            atoms = 0;
            states = 1;
            hasOthers = false;
            Arrays.fill(slotFrom, 0);
            Arrays.fill(slotTo, 0);
            for (int i = 0; i < isSet.length; i++) {
                isSet[i] = false;
            }
        }

        void addVariable(int low, int high) {
            if (variables < MAX_VARIABLES) {
                least[variables] = low;
                greatest[variables] = high;
                variables++;
                states *= high - low + 1;
            }
        }

        void addAtom(int[] form, int sign) {
            if (atoms < ALL_ATOMS) {
                System.arraycopy(form, 0, atomForms, atoms * FORM, FORM);
                atomSigns[atoms] = sign;
                atoms++;
            }
        }

        void addSet(int slot, int[] form) {
            if (slot >= 0 && slot < isSet.length) {
                isSet[slot] = true;
                System.arraycopy(form, 0, setForms, slot * FORM, FORM);
            }
        }
    }

    /** A TEXT cut into TOKENS, with one more behind them that stands for its length. */
    private static final class Tokens {
        int count;
        final int[] kinds = new int[MAX_TAPE + 1];
        final int[] places = new int[MAX_TAPE + 1];
        /** Of a number what it is, of a word its letters as digits by 27. */
        final int[] numbers = new int[MAX_TAPE + 1];
        /** The VARIABLE that a word names, NONE as long as there is none. */
        final int[] variables = new int[MAX_TAPE + 1];

        void cut(byte[] bytes, int n) {
            int length = Math.min(n, MAX_TAPE);
            count = 0;
            int before = TOKEN_BLANK;
            for (int at = 0; at < length; at++) {
                int sign = bytes[at] & 255;
                int kind = kindOf(sign);
                boolean isLong = kind == TOKEN_WORD || kind == TOKEN_NUMBER;
                if (isLong && kind == before) {
                    extend(sign, at);
                } else if (kind != TOKEN_BLANK) {
                    open(kind, at);
                    if (isLong) {
                        extend(sign, at);
                    }
                }
                before = kind;
            }
            open(TOKEN_END, length);
        }

        void nameVariable(int word, int variable) {
            for (int t = 0; t < count; t++) {
                if (kinds[t] == TOKEN_WORD && numbers[t] == word) {
                    variables[t] = variable;
                }
            }
        }

        private void open(int kind, int place) {
            if (count <= MAX_TAPE) {
                kinds[count] = kind;
                places[count] = place;
                numbers[count] = 0;
                variables[count] = NONE;
                count++;
            }
        }

        /** Adds a letter or a digit to the latest TOKEN. */
        private void extend(int sign, int place) {
            int t = count - 1;
            if (t < 0) {
                return;
            }
            if (kinds[t] == TOKEN_NUMBER) {
                // Beyond the greatest number its size tells nothing more, and must not wrap around.
                numbers[t] = Math.min(numbers[t] * 10 + sign - '0', MAX_NUMBER + 1);
            } else if (place - places[t] < MAX_LETTERS) {
                numbers[t] = numbers[t] * 27 + sign - 'a' + 1;
            } else {
                kinds[t] = TOKEN_WRONG;
            }
        }

        private static int kindOf(int sign) {
            if (sign >= 'a' && sign <= 'z') {
                return TOKEN_WORD;
            }
            if (sign >= '0' && sign <= '9') {
                return TOKEN_NUMBER;
            }
            switch (sign) {
                case 10:
                case 32:
                    return TOKEN_BLANK;
                case ';':
                case '<':
                case '=':
                case '>':
                case '+':
                case '-':
                case '*':
                    return sign;
                default:
                    return TOKEN_WRONG;
            }
        }
    }

    /** Reads a TEXT into a plan; its private methods answer whether they found no FAULT. */
    private static final class Reader {
        private final Plan plan;
        private final Tokens tokens = new Tokens();
        private int at;
        private int kind;
        private int place;
        private int number;
        private int variable;
        private int signedNumber;
        private int signedPlace;
        private final int[] form = new int[FORM];
        int fault;
        int faultPlace;

        Reader(Plan plan) {
            this.plan = plan;
        }

        /** How many LINES the first n bytes are, up to a FAULT. */
        int read(byte[] bytes, int n) {
            fault = 0;
            faultPlace = NONE;
            plan.clear();
            tokens.cut(bytes, n);
            at = NONE;
            advance();
            int lines = 0;
            while (kind != TOKEN_END && lines < MAX_TAPE) {
                if (!readLine() || !expect(';')) {
                    return lines;
                }
                lines++;
            }
            return lines;
        }

        /** Goes to the next TOKEN; behind the last one there is none. */
        private void advance() {
            if (at + 1 < tokens.count) {
                at++;
                kind = tokens.kinds[at];
                place = tokens.places[at];
                number = tokens.numbers[at];
                variable = tokens.variables[at];
            }
        }

        private boolean refuse(int which, int where) {
            fault = which;
            faultPlace = where;
            return false;
        }

        private boolean expect(int sign) {
            if (kind != sign) {
                return refuse(FAULT_TOKEN, place);
            }
            advance();
            return true;
        }

        private boolean readLine() {
            int word = kind == TOKEN_WORD ? number : NONE;
            switch (word) {
                case WORD_VAR:
                    return readVar();
                case WORD_START:
                    if (!openLine(plan.starts, MAX_STARTS)) {
                        return false;
                    }
                    plan.starts++;
                    return readCondition(plan.starts - 1);
                case WORD_BAD:
                    if (!openLine(plan.bads, MAX_BADS)) {
                        return false;
                    }
                    plan.bads++;
                    return readCondition(BAD_SLOT + plan.bads - 1);
                case WORD_STEP:
                    if (!openLine(plan.steps, MAX_STEPS)) {
                        return false;
                    }
                    plan.steps++;
                    return !takeWord(WORD_IF) || readCondition(STEP_SLOT + plan.steps - 1);
                case WORD_SET:
                    return readSet();
                case WORD_TEST:
                    if (!openLine(plan.tests, MAX_TESTS)) {
                        return false;
                    }
                    plan.tests++;
                    return readTest(TEST_SLOT + plan.tests - 1);
                default:
                    return refuse(FAULT_TOKEN, place);
            }
        }

        private boolean readVar() {
            if (plan.hasOthers) {
                return refuse(FAULT_TOKEN, place);
            }
            if (plan.variables >= MAX_VARIABLES) {
                return refuse(FAULT_TOO_MUCH, place);
            }
            advance();
            if (kind != TOKEN_WORD || isOfLanguage(number)) {
                return refuse(FAULT_TOKEN, place);
            }
            if (variable >= 0) {
                return refuse(FAULT_TOLD, place);
            }
            int name = number;
            advance();
            if (!readSigned(-MAX_VALUE)) {
                return false;
            }
            int low = signedNumber;
            if (!readSigned(low)) {
                return false;
            }
            if (plan.states * (signedNumber - low + 1) > MAX_STATES) {
                return refuse(FAULT_TOO_MUCH, signedPlace);
            }
            tokens.nameVariable(name, plan.variables);
            plan.addVariable(low, signedNumber);
            return true;
        }

        private boolean readSigned(int low) {
            signedPlace = place;
            boolean isMinus = kind == '-';
            if (isMinus) {
                advance();
            }
            if (kind != TOKEN_NUMBER) {
                return refuse(FAULT_TOKEN, place);
            }
            signedNumber = isMinus ? -number : number;
            if (signedNumber < low || signedNumber > MAX_VALUE) {
                return refuse(FAULT_TOO_MUCH, signedPlace);
            }
            advance();
            return true;
        }

        /** Takes the word of a LINE of which there may be only so many. */
        private boolean openLine(int told, int most) {
            if (told >= most) {
                return refuse(FAULT_TOO_MUCH, place);
            }
            plan.hasOthers = true;
            advance();
            return true;
        }

        /** Whether the TOKEN is a word, which is taken then. */
        private boolean takeWord(int word) {
            if (kind != TOKEN_WORD || number != word) {
                return false;
            }
            advance();
            return true;
        }

        private boolean readSet() {
            if (plan.steps == 0) {
                return refuse(FAULT_TOKEN, place);
            }
            advance();
            int v = variable;
            if (v < 0) {
                return refuse(FAULT_TOKEN, place);
            }
            int slot = (plan.steps - 1) * MAX_VARIABLES + v;
            if (plan.isSet[slot]) {
                return refuse(FAULT_TOLD, place);
            }
            advance();
            if (!expect('=')) {
                return false;
            }
            Arrays.fill(form, 0);
            if (!readExpression(1)) {
                return false;
            }
            plan.addSet(slot, form);
            return true;
        }

        private boolean readTest(int slot) {
            plan.slotFrom[slot] = plan.atoms;
            boolean isRead = readAtom();
            plan.slotTo[slot] = plan.atoms;
            return isRead;
        }

        private boolean readCondition(int slot) {
            plan.slotFrom[slot] = plan.atoms;
            for (int told = 0; told <= MAX_ATOMS; told++) {
                // What can't begin an A is fault 1 also where a 9th A would be fault 2.
                if (!beginsTerm()) {
                    return refuse(FAULT_TOKEN, place);
                }
                if (told == MAX_ATOMS) {
                    return refuse(FAULT_TOO_MUCH, place);
                }
                if (!readAtom()) {
                    return false;
                }
                if (!takeWord(WORD_AND)) {
                    break;
                }
            }
            plan.slotTo[slot] = plan.atoms;
            return true;
        }

        private boolean readAtom() {
            Arrays.fill(form, 0);
            if (!readExpression(1)) {
                return false;
            }
            int sign = kind;
            if (sign != '<' && sign != '=' && sign != '>') {
                return refuse(FAULT_TOKEN, place);
            }
            advance();
            if (!readExpression(-1)) {
                return false;
            }
            plan.addAtom(form, sign);
            return true;
        }

        /** Adds an E, times side, to the form. */
        private boolean readExpression(int side) {
            int sign = side;
            for (int told = 0; told <= MAX_TERMS; told++) {
                if (!beginsTerm()) {
                    return refuse(FAULT_TOKEN, place);
                }
                if (told == MAX_TERMS) {
                    return refuse(FAULT_TOO_MUCH, place);
                }
                if (!readTerm(sign)) {
                    return false;
                }
                if (kind != '+' && kind != '-') {
                    return true;
                }
                sign = kind == '+' ? side : -side;
                advance();
            }
            return true;
        }

        private boolean readTerm(int sign) {
            int factor = sign;
            if (kind == TOKEN_NUMBER) {
                if (number > MAX_NUMBER) {
                    return refuse(FAULT_TOO_MUCH, place);
                }
                factor = sign * number;
                advance();
                if (kind != '*') {
                    form[0] += factor;
                    return true;
                }
                advance();
            }
            if (variable < 0) {
                return refuse(FAULT_TOKEN, place);
            }
            form[1 + variable] += factor;
            advance();
            return true;
        }

        private boolean beginsTerm() {
            return kind == TOKEN_NUMBER || variable >= 0;
        }

        private static boolean isOfLanguage(int word) {
            switch (word) {
                case WORD_VAR:
                case WORD_START:
                case WORD_BAD:
                case WORD_STEP:
                case WORD_IF:
                case WORD_SET:
                case WORD_TEST:
                case WORD_AND:
                    return true;
                default:
                    return false;
            }
        }
    }

    /** All STATES of a plan, with what holds in them and where their STEPS lead. */
    private static final class World {
        int variables;
        int starts;
        int bads;
        int steps;
        int tests;
        int states;
        final int[] least = new int[MAX_VARIABLES];
        final int[] greatest = new int[MAX_VARIABLES];
        final int[] values = new int[MAX_STATES * MAX_VARIABLES];
        final int[] flags = new int[MAX_STATES];
        final int[] testBits = new int[MAX_STATES];
        final int[] targets = new int[MAX_STATES * MAX_STEPS];
        private final int[] wanted = new int[MAX_VARIABLES];
        private final int[] queue = new int[MAX_STATES];
        /** Chains of the STEPS that lead to each STATE, so that DOOMED needs each STEP once. */
        private final int[] intoHead = new int[MAX_STATES];
        private final int[] intoNext = new int[MAX_STATES * MAX_STEPS];

        boolean hasState(int state) {
            return state >= 0 && state < states;
        }

        boolean hasTest(int test) {
            return test >= 0 && test < tests;
        }

        int allTests() {
            return (1 << tests) - 1;
        }

        int flag(int state, int which) {
            return (flags[state] & which) != 0 ? 1 : 0;
        }

        int flagged(int which) {
            int found = 0;
            for (int s = 0; s < states; s++) {
                found += flag(s, which);
            }
            return found;
        }

        int stepsFrom(int state) {
            int found = 0;
            for (int k = 0; k < steps; k++) {
                if (targets[state * MAX_STEPS + k] >= 0) {
                    found++;
                }
            }
            return found;
        }

        int stateWith(int a, int b, int c) {
            wanted[0] = a;
            wanted[1] = b;
            wanted[2] = c;
            return wantedState();
        }

        void build(Plan plan) {
            variables = plan.variables;
            starts = plan.starts;
            bads = plan.bads;
            steps = plan.steps;
            tests = plan.tests;
            states = Math.min(plan.states, MAX_STATES);
            for (int v = 0; v < MAX_VARIABLES; v++) {
                least[v] = plan.least[v];
                greatest[v] = plan.greatest[v];
            }
            layOut();
            for (int s = 0; s < states; s++) {
                judge(plan, s);
                for (int k = 0; k < steps; k++) {
                    targets[s * MAX_STEPS + k] = targetOf(plan, s, k);
                }
            }
            findComeTo();
            findDoomed();
        }

        /** The values of all STATES, the last VARIABLE turning fastest. */
        private void layOut() {
            for (int v = 0; v < variables; v++) {
                wanted[v] = least[v];
            }
            for (int s = 0; s < states; s++) {
                for (int v = 0; v < variables; v++) {
                    values[s * MAX_VARIABLES + v] = wanted[v];
                }
                for (int v = variables - 1; v >= 0; v--) {
                    if (wanted[v] < greatest[v]) {
                        wanted[v]++;
                        break;
                    }
                    wanted[v] = least[v];
                }
            }
        }

        private void judge(Plan plan, int state) {
            int found = 0;
            for (int c = 0; c < starts; c++) {
                if (isMet(plan, c, state)) {
                    found |= IS_START;
                }
            }
            for (int c = 0; c < bads; c++) {
                if (isMet(plan, BAD_SLOT + c, state)) {
                    found |= IS_BAD;
                }
            }
            flags[state] = found;
            int bits = 0;
            for (int t = 0; t < tests; t++) {
                if (isMet(plan, TEST_SLOT + t, state)) {
                    bits |= 1 << t;
                }
            }
            testBits[state] = bits;
        }

        private boolean isMet(Plan plan, int slot, int state) {
            for (int a = plan.slotFrom[slot]; a < plan.slotTo[slot]; a++) {
                int difference = evaluate(plan.atomForms, a * FORM, state);
                int sign = plan.atomSigns[a];
                boolean isSo = sign == '<' ? difference < 0
                        : sign == '>' ? difference > 0 : difference == 0;
                if (!isSo) {
                    return false;
                }
            }
            return true;
        }

        private int evaluate(int[] forms, int at, int state) {
            int sum = forms[at];
            for (int v = 0; v < variables; v++) {
                sum += forms[at + 1 + v] * values[state * MAX_VARIABLES + v];
            }
            return sum;
        }

        private int targetOf(Plan plan, int state, int step) {
            if (!isMet(plan, STEP_SLOT + step, state)) {
                return NOTHING;
            }
            for (int v = 0; v < variables; v++) {
                int at = step * MAX_VARIABLES + v;
                wanted[v] = plan.isSet[at] ? evaluate(plan.setForms, at * FORM, state)
                        : values[state * MAX_VARIABLES + v];
            }
            int target = wantedState();
            return target >= 0 ? target : NOTHING;
        }

        private int wantedState() {
            int state = 0;
            for (int v = 0; v < variables; v++) {
                if (wanted[v] < least[v] || wanted[v] > greatest[v]) {
                    return NONE;
                }
                state = state * (greatest[v] - least[v] + 1) + wanted[v] - least[v];
            }
            return state;
        }

        private int gather(int which, int mark) {
            int tail = 0;
            for (int s = 0; s < states; s++) {
                if ((flags[s] & which) != 0) {
                    flags[s] |= mark;
                    queue[tail] = s;
                    tail++;
                }
            }
            return tail;
        }

        private void findComeTo() {
            int tail = gather(IS_START, IS_COME_TO);
            for (int head = 0; head < tail && head < states; head++) {
                for (int k = 0; k < steps; k++) {
                    int target = targets[queue[head] * MAX_STEPS + k];
                    if (target >= 0 && (flags[target] & IS_COME_TO) == 0) {
                        flags[target] |= IS_COME_TO;
                        queue[tail] = target;
                        tail++;
                    }
                }
            }
        }

        private void chainSteps() {
            Arrays.fill(intoHead, NONE);
            for (int s = 0; s < states; s++) {
                for (int k = 0; k < steps; k++) {
                    int at = s * MAX_STEPS + k;
                    int target = targets[at];
                    if (target >= 0) {
                        intoNext[at] = intoHead[target];
                        intoHead[target] = at;
                    }
                }
            }
        }

        private void findDoomed() {
            chainSteps();
            int tail = gather(IS_BAD, IS_DOOMED);
            for (int head = 0; head < tail && head < states; head++) {
                int at = intoHead[queue[head]];
                for (int left = intoNext.length; at >= 0 && left > 0; left--) {
                    int source = at / MAX_STEPS;
                    if ((flags[source] & IS_DOOMED) == 0) {
                        flags[source] |= IS_DOOMED;
                        queue[tail] = source;
                        tail++;
                    }
                    at = intoNext[at];
                }
            }
        }
    }

    /** POINTS and PAIRS that were told. */
    private static final class Samples {
        int points;
        int pairs;
        final int[] states = new int[MAX_POINTS];
        final int[] told = new int[MAX_POINTS];
        final int[] firsts = new int[MAX_PAIRS];
        final int[] seconds = new int[MAX_PAIRS];
        /** The POINT that each STATE is, or NOTHING. */
        final int[] pointOf = new int[MAX_STATES];
        /** Chains of PAIRS by their first and by their second POINT. */
        private final int[] outHead = new int[MAX_POINTS];
        private final int[] outNext = new int[MAX_PAIRS];
        private final int[] inHead = new int[MAX_POINTS];
        private final int[] inNext = new int[MAX_PAIRS];
        private final int[] queue = new int[MAX_POINTS];
        private final int[] distance = new int[MAX_POINTS];

        void clear() {
            points = 0;
            pairs = 0;
            Arrays.fill(pointOf, NOTHING);
        }

        /** The POINT that a STATE is from now on; NONE if there is no place for it. */
        int addPoint(int state) {
            if (pointOf[state] >= 0) {
                return pointOf[state];
            }
            if (points >= MAX_POINTS) {
                return NONE;
            }
            int p = points;
            states[p] = state;
            told[p] = 0;
            outHead[p] = NONE;
            inHead[p] = NONE;
            pointOf[state] = p;
            points++;
            return p;
        }

        int tell(int state, int label) {
            int p = addPoint(state);
            if (p >= 0) {
                told[p] |= label;
            }
            return p;
        }

        void addPair(int first, int second) {
            if (first < 0 || second < 0 || pairs >= MAX_PAIRS) {
                return;
            }
            firsts[pairs] = first;
            seconds[pairs] = second;
            outNext[pairs] = outHead[first];
            outHead[first] = pairs;
            inNext[pairs] = inHead[second];
            inHead[second] = pairs;
            pairs++;
        }

        int pairsFrom(int point) {
            int found = 0;
            for (int q = 0; q < pairs; q++) {
                if (firsts[q] == point) {
                    found++;
                }
            }
            return found;
        }

        int pairsTo(int point) {
            int found = 0;
            for (int q = 0; q < pairs; q++) {
                if (seconds[q] == point) {
                    found++;
                }
            }
            return found;
        }

        /** The LABELS that follow from what was TOLD, by PAIRS. */
        void labelAll(int[] labels) {
            Arrays.fill(labels, 0);
            for (int p = 0; p < points; p++) {
                if ((told[p] & GOOD) != 0) {
                    spread(labels, p, GOOD);
                }
                if ((told[p] & BAD) != 0) {
                    spread(labels, p, BAD);
                }
            }
        }

        /** Gives a POINT a label, and all to which it follows: GOOD onwards, BAD backwards. */
        void spread(int[] labels, int point, int label) {
            if ((labels[point] & label) != 0) {
                return;
            }
            boolean isOnwards = label == GOOD;
            labels[point] |= label;
            queue[0] = point;
            int tail = 1;
            for (int head = 0; head < tail && head < points; head++) {
                int q = isOnwards ? outHead[queue[head]] : inHead[queue[head]];
                for (int left = pairs; q >= 0 && left > 0; left--) {
                    int other = isOnwards ? seconds[q] : firsts[q];
                    if ((labels[other] & label) == 0) {
                        labels[other] |= label;
                        queue[tail] = other;
                        tail++;
                    }
                    q = isOnwards ? outNext[q] : inNext[q];
                }
            }
        }

        /** The i-th POINT of the shortest and least way from a GOOD POINT to a BAD one. */
        int onWay(int i) {
            measure();
            int p = wayBegin();
            if (p < 0 || i > distance[p]) {
                return NOTHING;
            }
            for (int k = 0; k < i && p >= 0; k++) {
                p = wayOnwards(p);
            }
            return p >= 0 ? p : NOTHING;
        }

        /** By how many PAIRS each POINT comes to one TOLD BAD; NONE if it doesn't. */
        private void measure() {
            int tail = 0;
            for (int p = 0; p < points; p++) {
                distance[p] = NONE;
                if ((told[p] & BAD) != 0) {
                    distance[p] = 0;
                    queue[tail] = p;
                    tail++;
                }
            }
            for (int head = 0; head < tail && head < points; head++) {
                int q = inHead[queue[head]];
                for (int left = pairs; q >= 0 && left > 0; left--) {
                    int other = firsts[q];
                    if (distance[other] < 0) {
                        distance[other] = distance[queue[head]] + 1;
                        queue[tail] = other;
                        tail++;
                    }
                    q = inNext[q];
                }
            }
        }

        private int wayBegin() {
            int best = NONE;
            for (int p = 0; p < points; p++) {
                boolean canBegin = (told[p] & GOOD) != 0 && distance[p] >= 0;
                if (canBegin && (best < 0 || distance[p] < distance[best])) {
                    best = p;
                }
            }
            return best;
        }

        private int wayOnwards(int point) {
            int best = NONE;
            int q = outHead[point];
            for (int left = pairs; q >= 0 && left > 0; left--) {
                int other = seconds[q];
                if (distance[other] == distance[point] - 1 && (best < 0 || other < best)) {
                    best = other;
                }
                q = outNext[q];
            }
            return best;
        }
    }

    /** NODES in the order in which they were made; without any there is no TREE. */
    private static final class Tree {
        int nodes;
        final int[] kinds = new int[MAX_NODES];
        final int[] tests = new int[MAX_NODES];
        final int[] holding = new int[MAX_NODES];
        final int[] failing = new int[MAX_NODES];
        final int[] had = new int[MAX_NODES];
        final int[] depths = new int[MAX_NODES];
        private final int[] parents = new int[MAX_NODES];

        /** A new NODE below a parent, on the side where its TEST holds or on the other. */
        int addNode(int kind, int test, int parent, boolean whereItHolds, int points) {
            if (nodes >= MAX_NODES) {
                return NONE;
            }
            int n = nodes;
            kinds[n] = kind;
            tests[n] = test;
            holding[n] = NOTHING;
            failing[n] = NOTHING;
            had[n] = points;
            parents[n] = parent;
            depths[n] = 0;
            if (parent >= 0) {
                depths[n] = depths[parent] + 1;
                if (whereItHolds) {
                    holding[parent] = n;
                } else {
                    failing[parent] = n;
                }
            }
            nodes++;
            return n;
        }

        /** The NODE below a parted one to which a STATE with these bits comes. */
        private int below(int n, int bits) {
            return ((bits >> tests[n]) & 1) == 1 ? holding[n] : failing[n];
        }

        boolean accepts(int bits) {
            int n = nodes > 0 ? 0 : NONE;
            for (int k = 0; k <= MAX_TESTS && n >= 0; k++) {
                if (kinds[n] != PARTED) {
                    return kinds[n] == LEAF_SO;
                }
                n = below(n, bits);
            }
            return false;
        }

        boolean leadsTo(int wanted, int bits) {
            int n = nodes > 0 ? 0 : NONE;
            for (int k = 0; k <= MAX_TESTS && n >= 0; k++) {
                if (n == wanted) {
                    return true;
                }
                n = kinds[n] == PARTED ? below(n, bits) : NONE;
            }
            return false;
        }

        int leavesSo() {
            int found = 0;
            for (int n = 0; n < nodes; n++) {
                if (kinds[n] == LEAF_SO) {
                    found++;
                }
            }
            return found;
        }

        int depthsSo() {
            int sum = 0;
            for (int n = 0; n < nodes; n++) {
                if (kinds[n] == LEAF_SO) {
                    sum += depths[n];
                }
            }
            return sum;
        }

        int rowEntry(int k, int i) {
            int left = k;
            for (int n = 0; n < nodes; n++) {
                if (kinds[n] == LEAF_SO) {
                    if (left == 0) {
                        return entryAbove(n, i);
                    }
                    left--;
                }
            }
            return NOTHING;
        }

        /** The i-th TEST above a NODE from the root on, with 100 if it holds there. */
        int entryAbove(int leaf, int i) {
            int n = leaf;
            for (int depth = depths[leaf] - 1; depth >= 0; depth--) {
                int parent = parents[n];
                if (parent < 0) {
                    return NOTHING;
                }
                if (depth == i) {
                    return (holding[parent] == n ? 100 : 0) + tests[parent];
                }
                n = parent;
            }
            return NOTHING;
        }
    }

    /** Fits a TREE to all POINTS. */
    private static final class Fitter {
        /** A NODE not made yet: its POINTS, its PAIRS, its parent, its side. */
        private static final int OPEN_FIELDS = 6;
        private static final int MAX_OPEN = MAX_TESTS + 4;

        private final World world;
        final int[] labels = new int[MAX_POINTS];
        private final int[] bits = new int[MAX_POINTS];
        /** POINTS and PAIRS in an order in which those of one NODE stand side by side. */
        private final int[] members = new int[MAX_POINTS];
        private final int[] inside = new int[MAX_PAIRS];
        private final int[] open = new int[MAX_OPEN * OPEN_FIELDS];
        private int opened;
        private int from;
        private int to;
        private int pairFrom;
        private int pairTo;
        private int parent;
        private boolean isHoldingSide;

        Fitter(World world) {
            this.world = world;
        }

        int labelOf(Samples samples, int point) {
            samples.labelAll(labels);
            return labels[point];
        }

        int rootCost(Samples samples, int test) {
            samples.labelAll(labels);
            takeAll(samples);
            return costOf(samples, test);
        }

        /** Whether a POINT that is TOLD BAD is GOOD; leaves the LABELS for the fitting. */
        boolean isUnsafe(Samples samples) {
            samples.labelAll(labels);
            for (int p = 0; p < samples.points; p++) {
                if ((samples.told[p] & BAD) != 0 && (labels[p] & GOOD) != 0) {
                    return true;
                }
            }
            return false;
        }

        /** Makes the TREE anew by the LABELS as they are; false if it is STUCK. */
        boolean fit(Samples samples, Tree tree, int care, int tests) {
            takeAll(samples);
            tree.nodes = 0;
            opened = 0;
            push(NONE, true);
            for (int made = 0; opened > 0 && made < MAX_NODES; made++) {
                pop();
                int kind = kindHere(care);
                if (kind != PARTED) {
                    tree.addNode(kind, NOTHING, parent, isHoldingSide, to - from);
                    settle(samples, kind == LEAF_SO ? GOOD : BAD);
                } else if (!part(samples, tree, tests)) {
                    return false;
                }
            }
            return true;
        }

        private void takeAll(Samples samples) {
            for (int p = 0; p < samples.points; p++) {
                members[p] = p;
                bits[p] = world.testBits[samples.states[p]];
            }
            for (int q = 0; q < samples.pairs; q++) {
                inside[q] = q;
            }
            from = 0;
            to = samples.points;
            pairFrom = 0;
            pairTo = samples.pairs;
        }

        private void push(int above, boolean whereItHolds) {
            if (opened >= MAX_OPEN) {
                return;
            }
            int at = opened * OPEN_FIELDS;
            open[at] = from;
            open[at + 1] = to;
            open[at + 2] = pairFrom;
            open[at + 3] = pairTo;
            open[at + 4] = above;
            open[at + 5] = whereItHolds ? 1 : 0;
            opened++;
        }

        private void pop() {
            if (opened <= 0) {
                return;
            }
            opened--;
            int at = opened * OPEN_FIELDS;
            from = open[at];
            to = open[at + 1];
            pairFrom = open[at + 2];
            pairTo = open[at + 3];
            parent = open[at + 4];
            isHoldingSide = open[at + 5] == 1;
        }

        private int kindHere(int care) {
            int found = 0;
            for (int i = from; i < to; i++) {
                found |= labels[members[i]];
            }
            boolean noBad = (found & BAD) == 0;
            boolean noGood = (found & GOOD) == 0;
            if (care == 0) {
                return noBad ? LEAF_SO : noGood ? LEAF_NOT_SO : PARTED;
            }
            return noGood ? LEAF_NOT_SO : noBad ? LEAF_SO : PARTED;
        }

        private void settle(Samples samples, int label) {
            for (int i = from; i < to; i++) {
                samples.spread(labels, members[i], label);
            }
        }

        private boolean part(Samples samples, Tree tree, int tests) {
            int test = cheapest(samples, tests);
            if (test < 0) {
                return false;
            }
            int node = tree.addNode(PARTED, test, parent, isHoldingSide, to - from);
            int middle = partPoints(test);
            int pairMiddle = gatherPairs(samples, test, 1, pairFrom);
            int pairEnd = gatherPairs(samples, test, 0, pairMiddle);
            int begin = from;
            int pairBegin = pairFrom;
            // The side where it holds is made first, so it is laid on top.
            from = middle;
            pairFrom = pairMiddle;
            pairTo = pairEnd;
            push(node, false);
            from = begin;
            to = middle;
            pairFrom = pairBegin;
            pairTo = pairMiddle;
            push(node, true);
            return true;
        }

        private int cheapest(Samples samples, int tests) {
            int best = NONE;
            int bestCost = 0;
            for (int t = 0; t < world.tests; t++) {
                if (((tests >> t) & 1) == 1) {
                    int price = costOf(samples, t);
                    if (price >= 0 && (best < 0 || price < bestCost)) {
                        best = t;
                        bestCost = price;
                    }
                }
            }
            return best;
        }

        /** The COST of a TEST for the NODE that is looked at; NOTHING if it parts no POINTS. */
        private int costOf(Samples samples, int test) {
            int held = 0;
            int goods = 0;
            int bads = 0;
            int heldGoods = 0;
            int heldBads = 0;
            for (int i = from; i < to; i++) {
                int label = labels[members[i]];
                int isHeld = (bits[members[i]] >> test) & 1;
                int isGood = label & 1;
                int isBad = (label >> 1) & 1;
                held += isHeld;
                goods += isGood;
                bads += isBad;
                heldGoods += isGood & isHeld;
                heldBads += isBad & isHeld;
            }
            if (held == 0 || held == to - from) {
                return NOTHING;
            }
            int crossing = 0;
            for (int i = pairFrom; i < pairTo; i++) {
                int q = inside[i];
                int differ = bits[samples.firsts[q]] ^ bits[samples.seconds[q]];
                crossing += (differ >> test) & 1;
            }
            int mixed = heldGoods * heldBads + (goods - heldGoods) * (bads - heldBads);
            return 4 * mixed + crossing;
        }

        private int partPoints(int test) {
            int middle = from;
            for (int i = from; i < to; i++) {
                int p = members[i];
                if (((bits[p] >> test) & 1) == 1) {
                    members[i] = members[middle];
                    members[middle] = p;
                    middle++;
                }
            }
            return middle;
        }

        /** Brings the PAIRS whose POINTS are both on one side to begin; answers their end. */
        private int gatherPairs(Samples samples, int test, int side, int begin) {
            int middle = begin;
            for (int i = begin; i < pairTo; i++) {
                int q = inside[i];
                int first = (bits[samples.firsts[q]] >> test) & 1;
                int second = (bits[samples.seconds[q]] >> test) & 1;
                if (first == side && second == side) {
                    inside[i] = inside[middle];
                    inside[middle] = q;
                    middle++;
                }
            }
            return middle;
        }
    }

    /** ROUNDS of fitting and asking the teacher, and RUNS. */
    private static final class Learner {
        private final World world;
        private final Fitter fitter;
        final Samples samples = new Samples();
        Tree tree = new Tree();
        private Tree spare = new Tree();
        private final boolean[] held = new boolean[MAX_STATES];
        int care;
        int order;
        private int tests;
        int end;
        int rounds;
        int broughtKind;
        int broughtFirst;
        int broughtSecond;
        private long drawnFrom;

        Learner(World world, Fitter fitter) {
            this.world = world;
            this.fitter = fitter;
        }

        void begin(int newCare, int newOrder, int newTests) {
            care = newCare;
            order = newOrder;
            tests = newTests;
            samples.clear();
            tree.nodes = 0;
            end = 0;
            rounds = 0;
            bring(0, NOTHING, NOTHING);
        }

        int acceptedStates() {
            int found = 0;
            for (int s = 0; s < world.states; s++) {
                if (tree.accepts(world.testBits[s])) {
                    found++;
                }
            }
            return found;
        }

        int statesAt(int node) {
            int found = 0;
            for (int s = 0; s < world.states; s++) {
                if (tree.leadsTo(node, world.testBits[s])) {
                    found++;
                }
            }
            return found;
        }

        int doRounds(int n) {
            int done = 0;
            while (done < n && end == 0) {
                doRound();
                done++;
            }
            return done;
        }

        private void doRound() {
            rounds++;
            bring(0, NOTHING, NOTHING);
            if (fitter.isUnsafe(samples)) {
                end = END_UNSAFE;
                return;
            }
            if (!fitter.fit(samples, spare, care, tests)) {
                end = END_STUCK;
                return;
            }
            Tree before = tree;
            tree = spare;
            spare = before;
            askTeacher();
        }

        private void bring(int kind, int first, int second) {
            broughtKind = kind;
            broughtFirst = first;
            broughtSecond = second;
        }

        private void askTeacher() {
            for (int s = 0; s < world.states; s++) {
                held[s] = tree.accepts(world.testBits[s]);
            }
            int state = firstLabelled(IS_START, false);
            if (state >= 0) {
                bringPoint(state, BROUGHT_START, GOOD);
                return;
            }
            state = firstLabelled(IS_BAD, true);
            if (state >= 0) {
                bringPoint(state, BROUGHT_BAD, BAD);
                return;
            }
            for (int i = 0; i < world.states; i++) {
                int source = inOrder(i);
                int target = leavingTarget(source);
                if (target >= 0) {
                    bringPair(source, target);
                    return;
                }
            }
            end = END_PROVED;
        }

        private int inOrder(int i) {
            return order == 0 ? i : world.states - 1 - i;
        }

        private int firstLabelled(int which, boolean isHeld) {
            for (int i = 0; i < world.states; i++) {
                int s = inOrder(i);
                if ((world.flags[s] & which) != 0 && held[s] == isHeld) {
                    return s;
                }
            }
            return NONE;
        }

        /** To which STATE beyond the TREE the first STEP that leaves it leads, from one in it. */
        private int leavingTarget(int source) {
            if (!held[source]) {
                return NONE;
            }
            for (int k = 0; k < world.steps; k++) {
                int target = world.targets[source * MAX_STEPS + k];
                if (target >= 0 && !held[target]) {
                    return target;
                }
            }
            return NONE;
        }

        private void bringPoint(int state, int kind, int label) {
            int p = samples.tell(state, label);
            if (p < 0) {
                end = END_FULL;
                return;
            }
            bring(kind, p, NOTHING);
        }

        private void bringPair(int source, int target) {
            int more = samples.pointOf[source] < 0 ? 1 : 0;
            more += samples.pointOf[target] < 0 ? 1 : 0;
            if (samples.points + more > MAX_POINTS || samples.pairs >= MAX_PAIRS) {
                end = END_FULL;
                return;
            }
            int first = samples.addPoint(source);
            int second = samples.addPoint(target);
            samples.addPair(first, second);
            bring(BROUGHT_PAIR, first, second);
        }

        int drawRun(int seed, int n) {
            int begins = world.flagged(IS_START);
            if (begins == 0) {
                return NONE;
            }
            drawnFrom = seed;
            int state = startNumber(draw(begins));
            for (int k = 0; k <= n && state >= 0; k++) {
                int p = samples.pointOf[state];
                if (p < 0 || (samples.told[p] & GOOD) == 0) {
                    return samples.tell(state, GOOD);
                }
                int ways = world.stepsFrom(state);
                state = k < n && ways > 0 ? targetNumber(state, draw(ways)) : NONE;
            }
            return NOTHING;
        }

        private int draw(int choices) {
            if (choices <= 0) {
                return 0;
            }
            drawnFrom = (drawnFrom * 1103515245L + 12345L) & 2147483647L;
            return (int) ((drawnFrom >> 16) % choices);
        }

        private int startNumber(int number) {
            int left = number;
            for (int s = 0; s < world.states; s++) {
                if ((world.flags[s] & IS_START) != 0) {
                    if (left == 0) {
                        return s;
                    }
                    left--;
                }
            }
            return NONE;
        }

        private int targetNumber(int state, int number) {
            int left = number;
            for (int k = 0; k < world.steps; k++) {
                int target = world.targets[state * MAX_STEPS + k];
                if (target >= 0) {
                    if (left == 0) {
                        return target;
                    }
                    left--;
                }
            }
            return NONE;
        }
    }

    /** Makes the ROWS of a TREE that is PROVED shorter, as long as they still prove. */
    private static final class Shortener {
        private final World world;
        int rowCount;
        boolean isReady;
        private final int[] lengths = new int[MAX_POINTS];
        private final int[] entries = new int[MAX_POINTS * MAX_TESTS];
        /** A ROW holds a STATE if the STATE's bits under its mask are its bits. */
        private final int[] masks = new int[MAX_POINTS];
        private final int[] bits = new int[MAX_POINTS];
        /** How many ROWS hold each STATE. */
        private final int[] cover = new int[MAX_STATES];

        Shortener(World world) {
            this.world = world;
        }

        void shorten(Tree tree) {
            takeRows(tree);
            Arrays.fill(cover, 0);
            for (int k = 0; k < rowCount; k++) {
                addCover(masks[k], bits[k], 1);
            }
            for (int k = 0; k < rowCount; k++) {
                dropTests(k);
            }
            dropRows();
            isReady = true;
        }

        int entryCount() {
            int sum = 0;
            for (int k = 0; k < rowCount; k++) {
                sum += lengths[k];
            }
            return sum;
        }

        int entry(int k, int i) {
            if (k < 0 || k >= rowCount || i < 0 || i >= lengths[k]) {
                return NOTHING;
            }
            return entries[k * MAX_TESTS + i];
        }

        int heldStates() {
            int found = 0;
            for (int s = 0; s < world.states; s++) {
                if (cover[s] > 0) {
                    found++;
                }
            }
            return found;
        }

        private void takeRows(Tree tree) {
            rowCount = 0;
            for (int n = 0; n < tree.nodes && rowCount < MAX_POINTS; n++) {
                if (tree.kinds[n] == LEAF_SO) {
                    takeRow(tree, n);
                    rowCount++;
                }
            }
        }

        private void takeRow(Tree tree, int leaf) {
            int length = Math.min(tree.depths[leaf], MAX_TESTS);
            int mask = 0;
            int wanted = 0;
            for (int i = 0; i < length; i++) {
                int entry = tree.entryAbove(leaf, i);
                entries[rowCount * MAX_TESTS + i] = entry;
                mask |= bitOf(entry);
                if (entry >= 100) {
                    wanted |= bitOf(entry);
                }
            }
            lengths[rowCount] = length;
            masks[rowCount] = mask;
            bits[rowCount] = wanted;
        }

        private static int bitOf(int entry) {
            return 1 << (entry >= 100 ? entry - 100 : entry);
        }

        private void addCover(int mask, int wanted, int by) {
            for (int s = 0; s < world.states; s++) {
                if ((world.testBits[s] & mask) == wanted) {
                    cover[s] += by;
                }
            }
        }

        private void dropTests(int k) {
            int kept = 0;
            for (int i = 0; i < lengths[k]; i++) {
                int entry = entries[k * MAX_TESTS + i];
                int mask = masks[k] & ~bitOf(entry);
                int wanted = bits[k] & ~bitOf(entry);
                addCover(masks[k], bits[k], -1);
                addCover(mask, wanted, 1);
                if (proves()) {
                    masks[k] = mask;
                    bits[k] = wanted;
                } else {
                    addCover(mask, wanted, -1);
                    addCover(masks[k], bits[k], 1);
                    entries[k * MAX_TESTS + kept] = entry;
                    kept++;
                }
            }
            lengths[k] = kept;
        }

        private void dropRows() {
            int kept = 0;
            for (int k = 0; k < rowCount; k++) {
                addCover(masks[k], bits[k], -1);
                if (!proves()) {
                    addCover(masks[k], bits[k], 1);
                    lengths[kept] = lengths[k];
                    for (int i = 0; i < lengths[k]; i++) {
                        entries[kept * MAX_TESTS + i] = entries[k * MAX_TESTS + i];
                    }
                    kept++;
                }
            }
            rowCount = kept;
        }

        private boolean proves() {
            for (int s = 0; s < world.states; s++) {
                int wrong = cover[s] > 0 ? IS_BAD : IS_START;
                if ((world.flags[s] & wrong) != 0) {
                    return false;
                }
            }
            for (int s = 0; s < world.states; s++) {
                if (cover[s] > 0 && isLeft(s)) {
                    return false;
                }
            }
            return true;
        }

        private boolean isLeft(int state) {
            for (int k = 0; k < world.steps; k++) {
                int target = world.targets[state * MAX_STEPS + k];
                if (target >= 0 && cover[target] == 0) {
                    return true;
                }
            }
            return false;
        }
    }

    /** What can be proved without learning. */
    private static final class Proofs {
        private final World world;
        boolean isReady;
        int holding;
        int failing;
        private final boolean[] near = new boolean[MAX_STATES];
        private final boolean[] nearer = new boolean[MAX_STATES];

        Proofs(World world) {
            this.world = world;
        }

        /** Finds which TESTS, as they hold and as they don't, are so TOGETHER. */
        void keepTogether() {
            if (isReady) {
                return;
            }
            holding = world.allTests();
            failing = world.allTests();
            for (int s = 0; s < world.states; s++) {
                if ((world.flags[s] & IS_START) != 0) {
                    keepOf(s);
                }
            }
            // A pass that is not the last takes one away at least of two for each test.
            boolean isChanged = true;
            for (int pass = 0; isChanged && pass <= 2 * MAX_TESTS; pass++) {
                int before = holding;
                int beforeFailing = failing;
                keepOverSteps();
                isChanged = holding != before || failing != beforeFailing;
            }
            isReady = true;
        }

        boolean excludesBad() {
            for (int s = 0; s < world.states; s++) {
                if ((world.flags[s] & IS_BAD) != 0 && isAllSo(s)) {
                    return false;
                }
            }
            return true;
        }

        private void keepOf(int state) {
            holding &= world.testBits[state];
            failing &= ~world.testBits[state];
        }

        private boolean isAllSo(int state) {
            int bits = world.testBits[state];
            return (bits & holding) == holding && (bits & failing) == 0;
        }

        private void keepOverSteps() {
            for (int s = 0; s < world.states; s++) {
                if (isAllSo(s)) {
                    for (int k = 0; k < world.steps; k++) {
                        int target = world.targets[s * MAX_STEPS + k];
                        if (target >= 0) {
                            keepOf(target);
                        }
                    }
                }
            }
        }

        int leastInduction() {
            for (int s = 0; s < world.states; s++) {
                int flags = world.flags[s];
                near[s] = (flags & IS_BAD) != 0;
                if (near[s] && (flags & IS_COME_TO) != 0) {
                    return NOTHING;
                }
            }
            for (int k = 1; k <= MAX_INDUCTION; k++) {
                if (!stepBack()) {
                    return k;
                }
            }
            return NOTHING;
        }

        /** Goes from STATES to those, not BAD, with a STEP to one of them; whether some are. */
        private boolean stepBack() {
            boolean isAny = false;
            for (int s = 0; s < world.states; s++) {
                nearer[s] = (world.flags[s] & IS_BAD) == 0 && hasNear(s);
                isAny |= nearer[s];
            }
            for (int s = 0; s < world.states; s++) {
                near[s] = nearer[s];
            }
            return isAny;
        }

        private boolean hasNear(int state) {
            for (int k = 0; k < world.steps; k++) {
                int target = world.targets[state * MAX_STEPS + k];
                if (target >= 0 && near[target]) {
                    return true;
                }
            }
            return false;
        }
    }
}
