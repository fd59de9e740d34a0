import java.util.NoSuchElementException;

/** A tracer that runs RULES, read from text, at the SITES of a program; a RULE that goes wrong ends alone. */
public final class RuleTracer {
    private static final int RULES = 6;
    private static final int SITES = 8;
    private static final int THREADS = 4;
    private static final int GATHERERS = 3;
    private static final int BINS = 8;
    private static final int GLOBALS = 3;
    private static final int VARIABLES = 6;
    private static final int MOST_TEXT = 48;
    private static final int MOST_DEPTH = 5;
    private static final int MOST_KEYS = 4;
    private static final int MOST_RECORDS = 6;
    private static final int MOST_TICK = 100;
    private static final int MOST_HANDED = 1000;
    private static final int MOST_OUTCOME = 1000000000;

    // A step of a compiled RULE is a character of the language, or one of these.
    private static final int OPPOSITE = '~';
    private static final int SET_FIRST = 'U';
    private static final int NUMBER = 256;

    private final RuleText text;
    private final Rule[] rules;
    private final Runner runner;
    private int place;
    private int firings;

    public RuleTracer() {
        text = new RuleText();
        rules = new Rule[RULES];
        for (int k = 0; k < RULES; k++) {
            rules[k] = new Rule();
        }
        runner = new Runner();
        place = -1;
    }

    public int type(long eight) throws IllegalArgumentException, IllegalStateException {
        if (!text.mayHold(eight)) {
            throw new IllegalArgumentException("a byte is not 33 .. 126");
        }
        if (!text.hasRoomFor(eight)) {
            throw new IllegalStateException("the text would have more than 48 characters");
        }
        text.add(eight);
        return text.length;
    }

    public int compile(int k) throws IllegalArgumentException {
        if (!isWithin(k, RULES)) {
            throw new IllegalArgumentException("a RULE is 0 .. 5");
        }
        boolean right = text.read();
        text.empty();
        if (!right) {
            place = text.at;
            throw new IllegalArgumentException("the text can't be read");
        }
        Rule old = rules[k];
        rules[k] = text.draft;
        rules[k].there = true;
        text.draft = old;
        return rules[k].actions;
    }

    public int turn(int k, boolean on) throws IllegalArgumentException, NoSuchElementException {
        if (!isWithin(k, RULES)) {
            throw new IllegalArgumentException("a RULE is 0 .. 5");
        }
        if (!rules[k].there) {
            throw new NoSuchElementException("the RULE is none");
        }
        rules[k].on = on;
        return rulesOn();
    }

    public int fire(int site, boolean exit, int thread, double a, double b, double c)
            throws IllegalArgumentException {
        if (!isWithin(site, SITES) || !isWithin(thread, THREADS)) {
            throw new IllegalArgumentException("a SITE is 0 .. 7, a THREAD 0 .. 3");
        }
        if (!mayBeHanded(a) || !mayBeHanded(b) || !mayBeHanded(c)) {
            throw new IllegalArgumentException("what is handed over is -1000.0 .. 1000.0");
        }
        runner.hand(thread, a, b, c);
        int done = 0;
        int met = 0;
        for (int k = 0; k < RULES; k++) {
            if (rules[k].isDoneAt(site, exit)) {
                done++;
                met += runner.run(rules[k]) ? 1 : 0;
            }
        }
        firings += done > 0 ? 1 : 0;
        return met;
    }

    public int tick(int n) throws IllegalArgumentException {
        if (n < 1 || n > MOST_TICK) {
            throw new IllegalArgumentException("THE TIME goes on by 1 .. 100");
        }
        runner.time += n;
        return runner.time;
    }

    public double variable(int number, int thread) throws IllegalArgumentException {
        if (!isWithin(number, VARIABLES)) {
            throw new IllegalArgumentException("a variable is 0 .. 5");
        }
        if (number >= GLOBALS && !isWithin(thread, THREADS)) {
            throw new IllegalArgumentException("a THREAD is 0 .. 3");
        }
        return runner.get(number, thread);
    }

    public double gathered(int g, int key, int what) throws IllegalArgumentException, NoSuchElementException {
        if (!isWithin(g, GATHERERS) || !isWithin(what, 4)) {
            throw new IllegalArgumentException("a GATHERER is 0 .. 2, what is 0 .. 3");
        }
        Gatherer gatherer = runner.gatherers[g];
        int row = gatherer.rowOf(key);
        if (row < 0) {
            throw new NoSuchElementException("the GATHERER has no such KEY");
        }
        return gatherer.figure(row, what);
    }

    public int many(int g, int key, int i) throws IllegalArgumentException, NoSuchElementException {
        if (!isWithin(g, GATHERERS) || !isWithin(i, BINS + 1)) {
            throw new IllegalArgumentException("a GATHERER is 0 .. 2, a BIN 0 .. 7, all are 8");
        }
        Gatherer gatherer = runner.gatherers[g];
        int row = gatherer.rowOf(key);
        if (row < 0) {
            throw new NoSuchElementException("the GATHERER has no such KEY");
        }
        return i == BINS ? gatherer.values[row] : gatherer.bins[row * BINS + i];
    }

    public double record() throws NoSuchElementException {
        if (runner.records.size == 0) {
            throw new NoSuchElementException("there is no RECORD");
        }
        return runner.records.take();
    }

    public int count(int what) {
        if (what >= 20 && what < 20 + RULES) {
            return rules[what - 20].there ? rules[what - 20].failures : -1;
        }
        if (what >= 30 && what < 30 + RULES) {
            return rules[what - 30].there ? rules[what - 30].meetings : -1;
        }
        if (what >= 8 && what < 8 + GATHERERS) {
            return runner.gatherers[what - 8].size;
        }
        switch (what) {
            case 0:
                return place;
            case 1:
                return text.length;
            case 2:
                return rulesThere();
            case 3:
                return rulesOn();
            case 4:
                return runner.records.size;
            case 5:
                return runner.records.lost;
            case 6:
                return runner.dropped;
            case 7:
                return firings;
            default:
                return -2;
        }
    }

    private int rulesThere() {
        int there = 0;
        for (int k = 0; k < RULES; k++) {
            there += rules[k].there ? 1 : 0;
        }
        return there;
    }

    private int rulesOn() {
        int on = 0;
        for (int k = 0; k < RULES; k++) {
            on += rules[k].on ? 1 : 0;
        }
        return on;
    }

    private static boolean isWithin(int number, int end) {
        return number >= 0 && number < end;
    }

    private static boolean mayBeHanded(double value) {
        // Asked this way round so that what is no number is refused too.
        return value >= -MOST_HANDED && value <= MOST_HANDED;
    }

    /** A RULE as steps for a stack of doubles: what an E needs stands before what uses it. */
    private static final class Rule {
        // Every step stands for at least one character of the text.
        final int[] steps = new int[MOST_TEXT];
        int length;
        int actions;
        int site;
        boolean exit;
        boolean conditional;
        boolean there;
        boolean on;
        int failures;
        int meetings;

        void clear() {
            length = 0;
            actions = 0;
            site = 0;
            exit = false;
            conditional = false;
            there = false;
            on = false;
            failures = 0;
            meetings = 0;
        }

        void add(int step) {
            if (length < steps.length) {
                steps[length] = step;
                length++;
            }
        }

        boolean isDoneAt(int firedSite, boolean firedExit) {
            return on && site == firedSite && exit == firedExit;
        }
    }

    /** The text typed so far, and its reading: a reader goes on only over what is right, so it stops at THE PLACE. */
    private static final class RuleText {
        private static final char END = 0;
        private static final int COMPARING = 0;
        private static final int SUMMING = 1;
        private static final int MULTIPLYING = 2;

        private final char[] characters = new char[MOST_TEXT];
        // A spare RULE is read into, so that a text that can't be read leaves the others alone.
        Rule draft = new Rule();
        int length = 0;
        int at = 0;

        boolean mayHold(long eight) {
            for (int shift = 56; shift >= 0; shift -= 8) {
                int one = byteAt(eight, shift);
                if (one != 0 && (one < 33 || one > 126)) {
                    return false;
                }
            }
            return true;
        }

        boolean hasRoomFor(long eight) {
            int more = 0;
            for (int shift = 56; shift >= 0; shift -= 8) {
                more += byteAt(eight, shift) != 0 ? 1 : 0;
            }
            return length + more <= MOST_TEXT;
        }

        void add(long eight) {
            for (int shift = 56; shift >= 0; shift -= 8) {
                int one = byteAt(eight, shift);
                if (one != 0 && length < characters.length) {
                    characters[length] = (char) one;
                    length++;
                }
            }
        }

        void empty() {
            length = 0;
        }

        boolean read() {
            draft.clear();
            at = 0;
            if (!readHead()) {
                return false;
            }
            for (int n = 0; n < MOST_TEXT; n++) {
                if (!readAction()) {
                    return false;
                }
                draft.actions++;
                if (pass('}')) {
                    return at == length;
                }
                if (!pass(';')) {
                    return false;
                }
            }
            return false;
        }

        private boolean readHead() {
            draft.exit = next() == 'x';
            if (!pass('e') && !pass('x')) {
                return false;
            }
            draft.site = next() - '0';
            if (!isWithin(draft.site, SITES)) {
                return false;
            }
            at++;
            if (pass('/')) {
                if (!readLevel(COMPARING, 0) || !pass('/')) {
                    return false;
                }
                draft.conditional = true;
                draft.add('/');
            }
            return pass('{');
        }

        private boolean readAction() {
            char first = next();
            if (first == '@') {
                at++;
                return readGathering();
            }
            int step = first;
            if (first >= 'u' && first <= 'z') {
                at++;
                step = SET_FIRST + first - 'u';
                if (!pass('=')) {
                    return false;
                }
            } else if (!pass('!') && !pass('?')) {
                return false;
            }
            if (!readLevel(COMPARING, 0)) {
                return false;
            }
            draft.add(step);
            return true;
        }

        private boolean readGathering() {
            char gatherer = next();
            if (gatherer < 'A' || gatherer > 'C') {
                return false;
            }
            at++;
            if (!pass('[') || !readLevel(COMPARING, 0) || !pass(']')) {
                return false;
            }
            if (!pass('=') || !readLevel(COMPARING, 0)) {
                return false;
            }
            draft.add(gatherer);
            return true;
        }

        /** E, SUM and TERM differ only in their operators, and in that an E has one at most. */
        private boolean readLevel(int level, int depth) {
            if (level > MULTIPLYING) {
                return readUnit(depth);
            }
            if (!readLevel(level + 1, depth)) {
                return false;
            }
            int most = level == COMPARING ? 1 : MOST_TEXT;
            for (int n = 0; n < most && levelOf(next()) == level; n++) {
                char operator = next();
                at++;
                if (!readLevel(level + 1, depth)) {
                    return false;
                }
                draft.add(operator);
            }
            return true;
        }

        private boolean readUnit(int depth) {
            char first = next();
            if (isDigit(first)) {
                readNumber();
                return true;
            }
            if (isName(first)) {
                at++;
                draft.add(first);
                return true;
            }
            if (first != '(' && first != '-' || depth >= MOST_DEPTH) {
                return false;
            }
            at++;
            if (first == '(') {
                return readLevel(COMPARING, depth + 1) && pass(')');
            }
            if (!readUnit(depth + 1)) {
                return false;
            }
            draft.add(OPPOSITE);
            return true;
        }

        private void readNumber() {
            int number = 0;
            for (int n = 0; n < 3 && isDigit(next()); n++) {
                number = number * 10 + (next() - '0');
                at++;
            }
            draft.add(NUMBER + number);
        }

        private char next() {
            return at < length && at < characters.length ? characters[at] : END;
        }

        private boolean pass(char wanted) {
            if (next() != wanted) {
                return false;
            }
            at++;
            return true;
        }

        private static int byteAt(long eight, int shift) {
            return (int) (eight >>> shift) & 255;
        }

        private static int levelOf(char operator) {
            switch (operator) {
                case '<':
                case '>':
                case '=':
                    return COMPARING;
                case '+':
                case '-':
                    return SUMMING;
                case '*':
                case ':':
                    return MULTIPLYING;
                default:
                    return -1;
            }
        }

        private static boolean isDigit(char c) {
            return c >= '0' && c <= '9';
        }

        private static boolean isName(char c) {
            return c >= 'a' && c <= 'c' || c >= 'u' && c <= 'z' || c == 't' || c == 'k';
        }
    }

    /** Does RULES one at a time, on the variables, GATHERERS and RECORDS that they leave things in. */
    private static final class Runner {
        private final double[] stack = new double[MOST_TEXT];
        private final double[] variables = new double[GLOBALS + THREADS * (VARIABLES - GLOBALS)];
        final Gatherer[] gatherers = new Gatherer[GATHERERS];
        final Records records = new Records();
        int time = 0;
        int dropped = 0;
        private int thread = 0;
        private double handedA = 0.0;
        private double handedB = 0.0;
        private double handedC = 0.0;
        private int top = 0;
        private boolean over = false;
        private boolean failed = false;
        private boolean met = false;

        Runner() {
            for (int g = 0; g < GATHERERS; g++) {
                gatherers[g] = new Gatherer();
            }
        }

        void hand(int toThread, double a, double b, double c) {
            thread = toThread;
            handedA = a;
            handedB = b;
            handedC = c;
        }

        boolean run(Rule rule) {
            top = 0;
            over = false;
            failed = false;
            met = !rule.conditional;
            for (int i = 0; i < rule.length && i < rule.steps.length && !over; i++) {
                doStep(rule.steps[i]);
            }
            rule.failures += failed ? 1 : 0;
            rule.meetings += met ? 1 : 0;
            return met;
        }

        double get(int number, int ofThread) {
            int slot = slotOf(number, ofThread);
            return isWithin(slot, variables.length) ? variables[slot] : 0.0;
        }

        private void doStep(int step) {
            if (step >= NUMBER) {
                push(step - NUMBER);
            } else if (step >= 'u' && step <= 'z') {
                push(get(step - 'u', thread));
            } else if (step >= SET_FIRST && step < SET_FIRST + VARIABLES) {
                set(step - SET_FIRST, pop());
            } else if (step >= 'A' && step < 'A' + GATHERERS) {
                gather(gatherers[step - 'A']);
            } else {
                doCharacter(step);
            }
        }

        private void doCharacter(int step) {
            switch (step) {
                case 'a':
                    push(handedA);
                    break;
                case 'b':
                    push(handedB);
                    break;
                case 'c':
                    push(handedC);
                    break;
                case 't':
                    push(time);
                    break;
                case 'k':
                    push(thread);
                    break;
                case OPPOSITE:
                    push(-pop());
                    break;
                case '/':
                    met = pop() != 0.0;
                    over = !met;
                    break;
                case '?':
                    over = pop() == 0.0;
                    break;
                case '!':
                    records.put(pop());
                    break;
                default:
                    operate(step);
                    break;
            }
        }

        private void operate(int operator) {
            double right = pop();
            double left = pop();
            switch (operator) {
                case '<':
                    push(left < right ? 1.0 : 0.0);
                    break;
                case '>':
                    push(left > right ? 1.0 : 0.0);
                    break;
                case '=':
                    push(left == right ? 1.0 : 0.0);
                    break;
                case '+':
                    pushOutcome(left + right);
                    break;
                case '-':
                    pushOutcome(left - right);
                    break;
                case '*':
                    pushOutcome(left * right);
                    break;
                default:
                    if (right == 0.0) {
                        fail();
                    } else {
                        pushOutcome(left / right);
                    }
                    break;
            }
        }

        private void pushOutcome(double outcome) {
            if (isOutOfBounds(outcome)) {
                fail();
            } else {
                push(outcome);
            }
        }

        private void set(int number, double value) {
            int slot = slotOf(number, thread);
            if (isWithin(slot, variables.length)) {
                variables[slot] = value;
            }
        }

        private void gather(Gatherer gatherer) {
            double value = pop();
            int key = (int) pop();
            int row = gatherer.rowFor(key);
            if (row < 0) {
                dropped++;
            } else if (isOutOfBounds(gatherer.sums[row] + value)) {
                fail();
            } else {
                gatherer.add(row, value);
            }
        }

        private void fail() {
            failed = true;
            over = true;
        }

        private void push(double value) {
            if (top < stack.length) {
                stack[top] = value;
                top++;
            }
        }

        private double pop() {
            if (top <= 0) {
                return 0.0;
            }
            top--;
            return stack[top];
        }

        private static int slotOf(int number, int ofThread) {
            return number < GLOBALS ? number : number + ofThread * (VARIABLES - GLOBALS);
        }

        private static boolean isOutOfBounds(double outcome) {
            return outcome > MOST_OUTCOME || outcome < -MOST_OUTCOME;
        }
    }

    /** The values of a GATHERER, a row for each KEY. */
    private static final class Gatherer {
        private final int[] keys = new int[MOST_KEYS];
        private final double[] least = new double[MOST_KEYS];
        private final double[] greatest = new double[MOST_KEYS];
        final double[] sums = new double[MOST_KEYS];
        final int[] values = new int[MOST_KEYS];
        final int[] bins = new int[MOST_KEYS * BINS];
        int size = 0;

        /** The KEY's row, or -1. */
        int rowOf(int key) {
            for (int row = 0; row < size && row < MOST_KEYS; row++) {
                if (keys[row] == key) {
                    return row;
                }
            }
            return -1;
        }

        /** The KEY's row, a new one if need be, or -1 if there is no room for one. */
        int rowFor(int key) {
            int row = rowOf(key);
            if (row >= 0 || size >= MOST_KEYS) {
                return row;
            }
            keys[size] = key;
            size++;
            return size - 1;
        }

        void add(int row, double value) {
            boolean first = values[row] == 0;
            values[row]++;
            sums[row] += value;
            bins[row * BINS + binOf(value)]++;
            least[row] = first || value < least[row] ? value : least[row];
            greatest[row] = first || value > greatest[row] ? value : greatest[row];
        }

        double figure(int row, int what) {
            switch (what) {
                case 0:
                    return sums[row];
                case 1:
                    return least[row];
                case 2:
                    return greatest[row];
                default:
                    return values[row] == 0 ? 0.0 : sums[row] / values[row];
            }
        }

        private static int binOf(double value) {
            double end = 1.0;
            for (int bin = 0; bin < BINS - 1; bin++) {
                if (value < end) {
                    return bin;
                }
                end *= 2.0;
            }
            return BINS - 1;
        }
    }

    /** THE RECORDS, in a ring, so that neither taking nor losing the oldest moves the others. */
    private static final class Records {
        private final double[] ring = new double[MOST_RECORDS];
        private int oldest = 0;
        int size = 0;
        int lost = 0;

        void put(double value) {
            if (size >= MOST_RECORDS) {
                take();
                lost++;
            }
            ring[(oldest + size) % MOST_RECORDS] = value;
            size++;
        }

        double take() {
            double value = ring[oldest];
            oldest = (oldest + 1) % MOST_RECORDS;
            size--;
            return value;
        }
    }
}
