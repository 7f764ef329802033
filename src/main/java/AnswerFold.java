import java.util.NoSuchElementException;

/** An answer set solver for small programs; see README.md. */
public final class AnswerFold {
    private static final int PREDICATES = 6;
    private static final int RULES = 20;
    private static final int HEADS = 2;
    private static final int CONDITIONS = 5;
    private static final int LAST_PART = 3;
    private static final int GROUNDINGS = 6;
    private static final int EXTERNALS = 6;
    private static final int VALUES = 8;
    private static final int LEVELS = 3;
    private static final int MOST_WEIGHT = 99;
    private static final int MOST_CHOSEN = 9;
    private static final int MOST_COUNTED = 20;
    private static final int KEPT = 300;
    private static final int OPEN_IN_WALK = 12;
    private static final int OPEN_BY_ALL = 7;
    private static final int ANSWERS = 64;
    /** Atoms of one predicate: a word of a set of atoms has a bit for each. */
    private static final int CELLS = VALUES * VALUES;
    private static final int ATOMS = PREDICATES * CELLS;
    private static final int NONE = -1;
    private static final int PARAMETER = 40;
    private static final int PARAMETER_LESS_ONE = 50;
    private static final int PARAMETER_SLOT = 4;
    /** Far above the rounds that any run needs: each round but the last one adds an atom. */
    private static final int ROUNDS = 1000;
    private static final int STEPS = 1000000;

    private final Program program;
    private final Grounding grounding;
    private final Solver solver;
    private final LoopFinder loopFinder;
    private final AtomSet assumedIn;
    private final AtomSet assumedOut;
    private final Answers answers;

    public AnswerFold() {
        program = new Program();
        grounding = new Grounding(program);
        solver = new Solver(program, grounding);
        loopFinder = new LoopFinder(grounding);
        assumedIn = new AtomSet();
        assumedOut = new AtomSet();
        answers = new Answers();
    }

    // ---- programs

    public int addPredicate(int places) throws IllegalArgumentException, IllegalStateException {
        if (places < 0 || places > 2) {
            throw new IllegalArgumentException("places are 0 to 2");
        }
        if (program.predicateCount >= PREDICATES) {
            throw new IllegalStateException("there are 6 predicates");
        }
        forgetGrounding();
        return program.tellPredicate(places);
    }

    public int addDisjunction(int part) throws IllegalArgumentException, IllegalStateException {
        checkPart(part);
        checkRoomForRule();
        forgetGrounding();
        return program.tellRule(new Rule('d', part));
    }

    public int addChoice(int part, int lower, int upper, int span) throws IllegalArgumentException, IllegalStateException {
        checkPart(part);
        if (lower < 0 || upper < lower || upper > MOST_CHOSEN) {
            throw new IllegalArgumentException("bounds are 0 to 9, the upper one not less than the lower one");
        }
        if (span != NONE && program.placesOf(span) != 1) {
            throw new IllegalArgumentException("a span is a predicate with one place, or -1");
        }
        checkRoomForRule();
        forgetGrounding();
        Rule rule = new Rule('c', part);
        rule.lower = lower;
        rule.upper = upper;
        rule.span = span;
        return program.tellRule(rule);
    }

    public int addWeak(int part, int weight, int level) throws IllegalArgumentException, IllegalStateException {
        checkPart(part);
        if (weight < -MOST_WEIGHT || weight > MOST_WEIGHT) {
            throw new IllegalArgumentException("weights are -99 to 99");
        }
        checkLevel(level);
        checkRoomForRule();
        forgetGrounding();
        Rule rule = new Rule('w', part);
        rule.weight = weight;
        rule.level = level;
        return program.tellRule(rule);
    }

    public int addHead(int rule, int predicate, int first, int second) throws IndexOutOfBoundsException, IllegalArgumentException, IllegalStateException {
        Rule told = program.ruleAt(rule);
        if (told == null || !program.hasPredicate(predicate)) {
            throw new IndexOutOfBoundsException("no such rule or predicate");
        }
        int places = program.placesOf(predicate);
        if (places > 0 && !isTerm(first) || places > 1 && !isTerm(second)) {
            throw new IllegalArgumentException("no such term");
        }
        if (told.kind == 'w' || told.headCount >= HEADS) {
            throw new IllegalStateException("a weak rule, or 2 heads");
        }
        forgetGrounding();
        return told.tellHead(atomLiteral('h', predicate, places, first, second));
    }

    public int addAtom(int rule, boolean isTrue, int predicate, int first, int second) throws IndexOutOfBoundsException, IllegalArgumentException, IllegalStateException {
        Rule told = program.ruleAt(rule);
        if (told == null || !program.hasPredicate(predicate)) {
            throw new IndexOutOfBoundsException("no such rule or predicate");
        }
        int places = program.placesOf(predicate);
        if (places > 0 && !isBodyTerm(told, first) || places > 1 && !isBodyTerm(told, second)) {
            throw new IllegalArgumentException("no such term in this body");
        }
        checkRoomForCondition(told);
        forgetGrounding();
        return told.tellCondition(atomLiteral(isTrue ? 't' : 'f', predicate, places, first, second));
    }

    public int addTest(int rule, char test, int first, int second) throws IndexOutOfBoundsException, IllegalArgumentException, IllegalStateException {
        Rule told = program.ruleAt(rule);
        if (told == null) {
            throw new IndexOutOfBoundsException("no such rule");
        }
        if (test != '<' && test != '=' && test != '!') {
            throw new IllegalArgumentException("no such test");
        }
        if (!isBodyTerm(told, first) || !isBodyTerm(told, second)) {
            throw new IllegalArgumentException("no such term in this body");
        }
        checkRoomForCondition(told);
        forgetGrounding();
        return told.tellCondition(new Literal(test, NONE, 0, first, second));
    }

    public int addCount(int rule, char kind, int predicate, int bound) throws IndexOutOfBoundsException, IllegalArgumentException, IllegalStateException {
        Rule told = program.ruleAt(rule);
        if (told == null || !program.hasPredicate(predicate)) {
            throw new IndexOutOfBoundsException("no such rule or predicate");
        }
        if (kind != 'g' && kind != 'l') {
            throw new IllegalArgumentException("no such kind of count");
        }
        if (bound < 0 || bound > MOST_COUNTED) {
            throw new IllegalArgumentException("bounds are 0 to 20");
        }
        checkRoomForCondition(told);
        forgetGrounding();
        return told.tellCondition(new Literal(kind, predicate, bound, 0, 0));
    }

    public int ground(int part, int parameter) throws IllegalArgumentException, IllegalStateException {
        if (part < 1 || part > LAST_PART || !isValue(parameter)) {
            throw new IllegalArgumentException("parts are 1 to 3, parameters 0 to 7");
        }
        if (program.groundedByCalls() >= GROUNDINGS || program.isGrounded(part, parameter)) {
            throw new IllegalStateException("6 times, or this part with this parameter before");
        }
        forgetGrounding();
        program.tellTime(part, parameter);
        return program.groundedByCalls();
    }

    // ---- externals and assumptions

    public int addExternal(int predicate, int first, int second) throws IndexOutOfBoundsException, IllegalArgumentException, IllegalStateException {
        int atom = checkedAtom(predicate, first, second);
        if (program.externalCount >= EXTERNALS || program.externalOf(atom) != NONE) {
            throw new IllegalStateException("6 externals, or it is one");
        }
        forgetGrounding();
        return program.tellExternal(atom);
    }

    public char setExternal(int external, char state) throws IndexOutOfBoundsException, IllegalArgumentException, IllegalStateException {
        if (external < 0 || external >= program.externalCount) {
            throw new IndexOutOfBoundsException("no such external");
        }
        if (state != 't' && state != 'f' && state != 'u' && state != 'r') {
            throw new IllegalArgumentException("no such state");
        }
        char before = program.externalState(external);
        if (before == 'r') {
            throw new IllegalStateException("it is released");
        }
        forgetGrounding();
        program.turnExternal(external, state);
        return before;
    }

    public int assume(int predicate, int first, int second, boolean isIn) throws IndexOutOfBoundsException, IllegalArgumentException {
        int atom = checkedAtom(predicate, first, second);
        answers.isKept = false;
        if (isIn) {
            assumedOut.remove(atom);
            assumedIn.add(atom);
        } else {
            assumedIn.remove(atom);
            assumedOut.add(atom);
        }
        return assumedIn.count() + assumedOut.count();
    }

    public int dropAssumptions() {
        int before = assumedIn.count() + assumedOut.count();
        answers.isKept = false;
        assumedIn.clear();
        assumedOut.clear();
        return before;
    }

    // ---- what is grounded

    public char state(int predicate, int first, int second) throws IndexOutOfBoundsException, IllegalArgumentException {
        int atom = checkedAtom(predicate, first, second);
        grounding.refresh();
        if (grounding.sure.contains(atom)) {
            return 's';
        }
        return grounding.possible.contains(atom) ? 'o' : 'n';
    }

    public int open() {
        grounding.refresh();
        return grounding.openCount;
    }

    public int instances(int rule) throws IndexOutOfBoundsException {
        if (program.ruleAt(rule) == null) {
            throw new IndexOutOfBoundsException("no such rule");
        }
        grounding.refresh();
        return grounding.keptOf(rule);
    }

    public int loops() throws UnsupportedOperationException {
        grounding.refresh();
        if (grounding.keptCount > KEPT) {
            throw new UnsupportedOperationException("more than 300 instances");
        }
        return loopFinder.countLoops();
    }

    // ---- answers

    public int walk() throws UnsupportedOperationException {
        if (answers.isKept) {
            return answers.count;
        }
        grounding.refresh();
        if (grounding.openCount > OPEN_IN_WALK || grounding.keptCount > KEPT) {
            throw new UnsupportedOperationException("more than 12 open atoms, or 300 instances");
        }
        solver.prepare(assumedIn, assumedOut);
        if (!solver.findAnswers(answers)) {
            throw new UnsupportedOperationException("more than 64 answers");
        }
        answers.isKept = true;
        return answers.count;
    }

    public int walkByAll() throws UnsupportedOperationException {
        grounding.refresh();
        if (grounding.openCount > OPEN_BY_ALL || grounding.keptCount > KEPT) {
            throw new UnsupportedOperationException("more than 7 open atoms, or 300 instances");
        }
        solver.prepare(assumedIn, assumedOut);
        return solver.countByAll();
    }

    public boolean has(int answer, int predicate, int first, int second) throws IllegalStateException, IndexOutOfBoundsException, IllegalArgumentException {
        int set = checkedAnswer(answer);
        return solver.isIn(set, checkedAtom(predicate, first, second));
    }

    public int size(int answer) throws IllegalStateException, IndexOutOfBoundsException {
        return solver.sizeOf(checkedAnswer(answer));
    }

    public long cost(int answer, int level) throws IllegalStateException, IndexOutOfBoundsException, IllegalArgumentException {
        checkedAnswer(answer);
        checkLevel(level);
        return answers.costAt(answer, level);
    }

    public int best() throws IllegalStateException {
        checkWalk();
        return answers.countBest();
    }

    public int projected(int predicate) throws IllegalStateException, IndexOutOfBoundsException {
        checkWalk();
        if (!program.hasPredicate(predicate)) {
            throw new IndexOutOfBoundsException("no such predicate");
        }
        return answers.countDifferent(solver.openBitsOf(predicate));
    }

    public char holds(int predicate, int first, int second) throws IllegalStateException, IndexOutOfBoundsException, IllegalArgumentException {
        checkWalk();
        int found = answersWith(checkedAtom(predicate, first, second));
        if (found == answers.count) {
            return 'a';
        }
        return found == 0 ? 'n' : 's';
    }

    public int reason(int answer, int predicate, int first, int second) throws IllegalStateException, IndexOutOfBoundsException, IllegalArgumentException, NoSuchElementException {
        int set = checkedAnswer(answer);
        int atom = checkedAtom(predicate, first, second);
        int found = solver.isIn(set, atom) ? solver.reasonFor(set, atom) : NONE;
        if (found == NONE) {
            throw new NoSuchElementException("it is not in the answer");
        }
        return found;
    }

    // ---- figures

    public float share(int predicate, int first, int second) throws IllegalStateException, IndexOutOfBoundsException, IllegalArgumentException, ArithmeticException {
        checkWalk();
        int atom = checkedAtom(predicate, first, second);
        if (answers.count <= 0) {
            throw new ArithmeticException("no answers");
        }
        return (float) answersWith(atom) / (float) answers.count;
    }

    public int commonest() throws IllegalStateException, NoSuchElementException {
        checkWalk();
        if (grounding.openCount <= 0 || answers.count <= 0) {
            throw new NoSuchElementException("no open atom or no answer");
        }
        int most = NONE;
        int atom = 0;
        for (int i = 0; i < grounding.openCount; i++) {
            int found = answersWith(grounding.openAtomAt(i));
            if (found > most) {
                most = found;
                atom = grounding.openAtomAt(i);
            }
        }
        return 100 * (atom / CELLS) + 10 * (atom % CELLS / VALUES) + atom % VALUES;
    }

    public double meanSize() throws IllegalStateException, ArithmeticException {
        checkWalk();
        if (answers.count <= 0) {
            throw new ArithmeticException("no answers");
        }
        int sum = 0;
        for (int i = 0; i < answers.count; i++) {
            sum += solver.sizeOf(answers.setAt(i));
        }
        return (double) sum / (double) answers.count;
    }

    // ---- helpers of the face

    private void forgetGrounding() {
        grounding.isCurrent = false;
        solver.isCompiled = false;
        answers.isKept = false;
    }

    private void checkPart(int part) {
        if (part < 0 || part > LAST_PART) {
            throw new IllegalArgumentException("parts are 0 to 3");
        }
    }

    private void checkLevel(int level) {
        if (level < 1 || level > LEVELS) {
            throw new IllegalArgumentException("levels are 1 to 3");
        }
    }

    private void checkRoomForRule() {
        if (program.ruleCount >= RULES) {
            throw new IllegalStateException("there are 20 rules");
        }
    }

    private void checkRoomForCondition(Rule rule) {
        if (rule.conditionCount >= CONDITIONS) {
            throw new IllegalStateException("there are 5 conditions");
        }
    }

    private void checkWalk() {
        if (!answers.isKept) {
            throw new IllegalStateException("no walk is kept");
        }
    }

    /** The open atoms of an answer, as bits. */
    private int checkedAnswer(int answer) {
        checkWalk();
        if (answer < 0 || answer >= answers.count) {
            throw new IndexOutOfBoundsException("no such answer");
        }
        return answers.setAt(answer);
    }

    private int checkedAtom(int predicate, int first, int second) {
        if (!program.hasPredicate(predicate)) {
            throw new IndexOutOfBoundsException("no such predicate");
        }
        int places = program.placesOf(predicate);
        if (places > 0 && !isValue(first) || places > 1 && !isValue(second)) {
            throw new IllegalArgumentException("values are 0 to 7");
        }
        return predicate * CELLS + (places > 0 ? first : 0) * VALUES + (places > 1 ? second : 0);
    }

    private int answersWith(int atom) {
        int found = 0;
        for (int i = 0; i < answers.count; i++) {
            if (solver.isIn(answers.setAt(i), atom)) {
                found++;
            }
        }
        return found;
    }

    private static boolean isValue(int value) {
        return value >= 0 && value < VALUES;
    }

    private static boolean isTerm(int term) {
        if (isValue(term) || term == PARAMETER || term == PARAMETER_LESS_ONE) {
            return true;
        }
        return term >= 10 && term <= 32 && term % 10 <= 2;
    }

    /** In the body of a choice with a span, the variable 2 has no value. */
    private static boolean isBodyTerm(Rule rule, int term) {
        boolean isThird = term == 12 || term == 22 || term == 32;
        return isTerm(term) && !(isThird && rule.hasSpan());
    }

    /** Terms for places that the predicate does not have are dropped, so that they name no variable. */
    private static Literal atomLiteral(char kind, int predicate, int places, int first, int second) {
        return new Literal(kind, predicate, 0, places > 0 ? first : 0, places > 1 ? second : 0);
    }

    /** A set of atoms, with a word for each predicate. */
    private static final class AtomSet {
        private final long[] words = new long[PREDICATES];

        boolean contains(int atom) {
            return atom >= 0 && atom < ATOMS && (words[atom / CELLS] >>> (atom % CELLS) & 1L) != 0L;
        }

        /** Whether the atom is new. */
        boolean add(int atom) {
            if (atom < 0 || atom >= ATOMS) {
                return false;
            }
            long before = words[atom / CELLS];
            words[atom / CELLS] = before | 1L << (atom % CELLS);
            return words[atom / CELLS] != before;
        }

        void remove(int atom) {
            if (atom >= 0 && atom < ATOMS) {
                words[atom / CELLS] &= ~(1L << (atom % CELLS));
            }
        }

        int countOf(int predicate) {
            return predicate >= 0 && predicate < PREDICATES ? Long.bitCount(words[predicate]) : 0;
        }

        int count() {
            int sum = 0;
            for (int p = 0; p < PREDICATES; p++) {
                sum += countOf(p);
            }
            return sum;
        }

        void clear() {
            for (int p = 0; p < PREDICATES; p++) {
                words[p] = 0L;
            }
        }
    }

    /**
     * A head 'h', an atom that is to be true 't' or false 'f', a test '<' '=' '!', or a count 'g' 'l'.
     * A term is kept as the slot that it starts from and what is added to it.
     */
    private static final class Literal {
        private final char kind;
        private final int predicate;
        private final int bound;
        private final int firstSlot;
        private final int firstShift;
        private final int secondSlot;
        private final int secondShift;
        /** The number of variables, from the first one on, that must have values before this is known. */
        private final int depth;

        Literal(char kind, int predicate, int bound, int first, int second) {
            this.kind = kind;
            this.predicate = predicate;
            this.bound = bound;
            firstSlot = slotOf(first);
            firstShift = shiftOf(first);
            secondSlot = slotOf(second);
            secondShift = shiftOf(second);
            depth = Math.max(firstSlot == PARAMETER_SLOT ? 0 : firstSlot, secondSlot == PARAMETER_SLOT ? 0 : secondSlot);
        }

        /** 0 for a value, 1 to 3 for a variable, 4 for the parameter. */
        private static int slotOf(int term) {
            if (term < VALUES) {
                return 0;
            }
            return term >= PARAMETER ? PARAMETER_SLOT : 1 + term % 10;
        }

        private static int shiftOf(int term) {
            if (term < VALUES) {
                return term;
            }
            if (term >= 20 && term < 30) {
                return 1;
            }
            return term >= 30 && term != PARAMETER ? -1 : 0;
        }

        boolean names(int slot) {
            return firstSlot == slot || secondSlot == slot;
        }

        boolean isCount() {
            return kind == 'g' || kind == 'l';
        }
    }

    /** A disjunction 'd', a choice 'c' or a weak rule 'w'. */
    private static final class Rule {
        private final char kind;
        private final int part;
        private int lower;
        private int upper;
        private int span = NONE;
        private int weight;
        private int level;
        private final Literal[] heads = new Literal[HEADS];
        private int headCount;
        private final Literal[] conditions = new Literal[CONDITIONS];
        private int conditionCount;

        Rule(char kind, int part) {
            this.kind = kind;
            this.part = part;
        }

        boolean hasSpan() {
            return span != NONE;
        }

        int tellHead(Literal head) {
            if (headCount >= 0 && headCount < HEADS) {
                heads[headCount] = head;
                headCount++;
            }
            return headCount;
        }

        int tellCondition(Literal condition) {
            if (conditionCount >= 0 && conditionCount < CONDITIONS) {
                conditions[conditionCount] = condition;
                conditionCount++;
            }
            return conditionCount;
        }

        /** Null if there is none. */
        Literal headAt(int number) {
            return number >= 0 && number < headCount && number < HEADS ? heads[number] : null;
        }

        /** Null if there is none. */
        Literal conditionAt(int number) {
            return number >= 0 && number < conditionCount && number < CONDITIONS ? conditions[number] : null;
        }

        /** How many values are chosen for the variable in a slot: one that has no meaning if it does not occur. */
        int valuesFor(int slot) {
            if (slot == 3 && hasSpan()) {
                return 1;
            }
            for (int i = 0; i < headCount; i++) {
                Literal head = headAt(i);
                if (head != null && head.names(slot)) {
                    return VALUES;
                }
            }
            for (int i = 0; i < conditionCount; i++) {
                Literal condition = conditionAt(i);
                if (condition != null && condition.names(slot)) {
                    return VALUES;
                }
            }
            return 1;
        }

        /** Whether the rule can make an atom sure. */
        boolean isDefinite() {
            for (int i = 0; i < conditionCount; i++) {
                Literal condition = conditionAt(i);
                if (condition != null && (condition.kind == 'f' || condition.isCount())) {
                    return false;
                }
            }
            return kind == 'd' && headCount == 1;
        }

        boolean hasCounts() {
            for (int i = 0; i < conditionCount; i++) {
                Literal condition = conditionAt(i);
                if (condition != null && condition.isCount()) {
                    return true;
                }
            }
            return false;
        }

        /** The predicates of the atoms that are to be true, a bit for each. */
        int neededPredicates() {
            int needed = 0;
            for (int i = 0; i < conditionCount; i++) {
                Literal condition = conditionAt(i);
                if (condition != null && condition.kind == 't') {
                    needed |= 1 << condition.predicate;
                }
            }
            return needed;
        }
    }

    /** What was told: predicates, rules, the times at which parts were grounded, and externals. */
    private static final class Program {
        private final int[] places = new int[PREDICATES];
        private int predicateCount;
        private final Rule[] rules = new Rule[RULES];
        private int ruleCount;
        private final int[] timePart = new int[1 + GROUNDINGS];
        private final int[] timeParameter = new int[1 + GROUNDINGS];
        /** The time 0 is that of the part 0, with the parameter 0. */
        private int timeCount = 1;
        private final int[] externalAtom = new int[EXTERNALS];
        private final char[] externalState = new char[EXTERNALS];
        private int externalCount;

        boolean hasPredicate(int predicate) {
            return predicate >= 0 && predicate < predicateCount && predicate < PREDICATES;
        }

        int placesOf(int predicate) {
            return hasPredicate(predicate) ? places[predicate] : NONE;
        }

        int tellPredicate(int placesTold) {
            if (predicateCount < 0 || predicateCount >= PREDICATES) {
                return NONE;
            }
            places[predicateCount] = placesTold;
            return predicateCount++;
        }

        /** Null if there is none. */
        Rule ruleAt(int number) {
            return number >= 0 && number < ruleCount && number < RULES ? rules[number] : null;
        }

        int tellRule(Rule rule) {
            if (ruleCount < 0 || ruleCount >= RULES) {
                return NONE;
            }
            rules[ruleCount] = rule;
            return ruleCount++;
        }

        void tellTime(int part, int parameter) {
            if (timeCount >= 0 && timeCount < timePart.length && timeCount < timeParameter.length) {
                timePart[timeCount] = part;
                timeParameter[timeCount] = parameter;
                timeCount++;
            }
        }

        int groundedByCalls() {
            return timeCount - 1;
        }

        boolean isGrounded(int part, int parameter) {
            for (int t = 0; t < timeCount; t++) {
                if (parameterAt(t, part) == parameter) {
                    return true;
                }
            }
            return false;
        }

        /** The parameter with which a part was grounded at a time, or none if it was another part. */
        int parameterAt(int time, int part) {
            boolean isTime = time >= 0 && time < timePart.length && time < timeParameter.length;
            return isTime && timePart[time] == part ? timeParameter[time] : NONE;
        }

        int tellExternal(int atom) {
            if (externalCount < 0 || externalCount >= EXTERNALS) {
                return NONE;
            }
            externalAtom[externalCount] = atom;
            externalState[externalCount] = 'f';
            return externalCount++;
        }

        int externalAtom(int external) {
            return external >= 0 && external < externalCount && external < EXTERNALS ? externalAtom[external] : NONE;
        }

        char externalState(int external) {
            return external >= 0 && external < externalCount && external < EXTERNALS ? externalState[external] : 'r';
        }

        void turnExternal(int external, char state) {
            if (external >= 0 && external < externalCount && external < EXTERNALS) {
                externalState[external] = state;
            }
        }

        /** The number of the external that an atom is, or none. */
        int externalOf(int atom) {
            for (int e = 0; e < externalCount; e++) {
                if (externalAtom(e) == atom) {
                    return e;
                }
            }
            return NONE;
        }
    }

    /** The values that an instance has for the variables and the parameter. */
    private static final class Binding {
        private int first;
        private int second;
        private int third;
        private int parameter;

        int valueOf(int slot, int shift) {
            switch (slot) {
                case 1:
                    return first + shift;
                case 2:
                    return second + shift;
                case 3:
                    return third + shift;
                case PARAMETER_SLOT:
                    return parameter + shift;
                default:
                    return shift;
            }
        }

        /** None if a value is not from 0 to 7; no set contains that. */
        int atomOf(Literal literal) {
            if (literal == null) {
                return NONE;
            }
            int one = valueOf(literal.firstSlot, literal.firstShift);
            int two = valueOf(literal.secondSlot, literal.secondShift);
            if (one < 0 || one >= VALUES || two < 0 || two >= VALUES) {
                return NONE;
            }
            return literal.predicate * CELLS + one * VALUES + two;
        }

        /** Whether a test holds; what is no test holds here too. */
        boolean testHolds(Literal literal) {
            int one = valueOf(literal.firstSlot, literal.firstShift);
            int two = valueOf(literal.secondSlot, literal.secondShift);
            if (literal.kind == '<') {
                return one < two;
            }
            if (literal.kind == '=') {
                return one == two;
            }
            return literal.kind != '!' || one != two;
        }

        int packed() {
            return first + VALUES * (second + VALUES * (third + VALUES * parameter));
        }

        void unpack(int packed) {
            first = packed % VALUES;
            second = packed / VALUES % VALUES;
            third = packed / CELLS % VALUES;
            parameter = packed / (CELLS * VALUES) % VALUES;
        }
    }

    /** Which atoms are sure, possible and open, and which instances are kept. */
    private static final class Grounding {
        private static final int FOR_SURE = 0;
        private static final int FOR_POSSIBLE = 1;
        private static final int FOR_KEPT = 2;

        private final Program program;
        private final Binding binding = new Binding();
        private final AtomSet sure = new AtomSet();
        private final AtomSet possible = new AtomSet();
        private final int[] heads = new int[HEADS * VALUES];
        private int headCount;
        private final int[] keptRule = new int[KEPT];
        private final int[] keptValues = new int[KEPT];
        private final int[] keptByRule = new int[RULES];
        private int keptCount;
        private final int[] openAtoms = new int[ATOMS];
        private final int[] openNumbers = new int[ATOMS];
        private int openCount;
        private boolean isCurrent;
        private int purpose;
        /** The predicates that have got atoms since this was cleared, a bit for each. */
        private int grown;

        Grounding(Program program) {
            this.program = program;
        }

        void refresh() {
            if (isCurrent) {
                return;
            }
            sure.clear();
            possible.clear();
            beginWithExternals();
            purpose = FOR_SURE;
            spread();
            purpose = FOR_POSSIBLE;
            spread();
            purpose = FOR_KEPT;
            keepInstances();
            numberOpenAtoms();
            isCurrent = true;
        }

        private void beginWithExternals() {
            for (int e = 0; e < program.externalCount; e++) {
                char state = program.externalState(e);
                if (state == 't') {
                    sure.add(program.externalAtom(e));
                }
                if (state == 't' || state == 'u') {
                    possible.add(program.externalAtom(e));
                }
            }
        }

        /** Applies rules until nothing is added; a rule waits only if one of its atoms may be new. */
        private void spread() {
            int waiting = rulesNeeding(NONE);
            for (int round = 0; waiting != 0 && round < ROUNDS; round++) {
                for (int r = 0; r < program.ruleCount; r++) {
                    Rule rule = program.ruleAt(r);
                    if (rule == null || (waiting >> r & 1) == 0) {
                        continue;
                    }
                    waiting &= ~(1 << r);
                    grown = 0;
                    for (int t = 0; t < program.timeCount; t++) {
                        eachInstance(rule, r, program.parameterAt(t, rule.part));
                    }
                    waiting |= grown == 0 ? 0 : rulesNeeding(grown);
                }
            }
        }

        /** The rules for this purpose that need one of the predicates, or all for NONE; a bit for each. */
        private int rulesNeeding(int predicates) {
            int found = 0;
            for (int r = 0; r < program.ruleCount; r++) {
                Rule rule = program.ruleAt(r);
                if (rule == null || rule.kind == 'w' || purpose == FOR_SURE && !rule.isDefinite()) {
                    continue;
                }
                if (predicates == NONE || (rule.neededPredicates() & predicates) != 0) {
                    found |= 1 << r;
                }
            }
            return found;
        }

        private void keepInstances() {
            keptCount = 0;
            for (int r = 0; r < RULES; r++) {
                keptByRule[r] = 0;
                Rule rule = program.ruleAt(r);
                for (int t = 0; rule != null && t < program.timeCount; t++) {
                    eachInstance(rule, r, program.parameterAt(t, rule.part));
                }
            }
        }

        /** Takes each instance whose body may hold; conditions are looked at as soon as their variables have values. */
        private void eachInstance(Rule rule, int number, int parameter) {
            binding.parameter = parameter;
            if (parameter == NONE || !mayHold(rule, 0)) {
                return;
            }
            int firstEnd = rule.valuesFor(1);
            int secondEnd = rule.valuesFor(2);
            int thirdEnd = rule.valuesFor(3);
            for (int a = 0; a < firstEnd; a++) {
                binding.first = a;
                if (!mayHold(rule, 1)) {
                    continue;
                }
                for (int b = 0; b < secondEnd; b++) {
                    binding.second = b;
                    if (!mayHold(rule, 2)) {
                        continue;
                    }
                    for (int c = 0; c < thirdEnd; c++) {
                        binding.third = c;
                        if (mayHold(rule, 3)) {
                            takeInstance(rule, number);
                        }
                    }
                }
            }
        }

        /** Whether the conditions of a depth may hold, or, when atoms are made sure, do so. */
        private boolean mayHold(Rule rule, int depth) {
            for (int i = 0; i < rule.conditionCount; i++) {
                Literal condition = rule.conditionAt(i);
                if (condition != null && condition.depth == depth && !mayHoldOne(condition)) {
                    return false;
                }
            }
            return true;
        }

        private boolean mayHoldOne(Literal condition) {
            if (condition.kind == 't') {
                AtomSet base = purpose == FOR_SURE ? sure : possible;
                return base.contains(binding.atomOf(condition));
            }
            if (condition.kind == 'f') {
                return !sure.contains(binding.atomOf(condition));
            }
            return binding.testHolds(condition);
        }

        private void takeInstance(Rule rule, int number) {
            int values = binding.packed();
            if (!listHeads(rule)) {
                return;
            }
            if (purpose == FOR_KEPT) {
                keep(number, values);
                return;
            }
            AtomSet goal = purpose == FOR_SURE ? sure : possible;
            for (int i = 0; i < headCount; i++) {
                int atom = headAtomAt(i);
                if (goal.add(atom)) {
                    grown |= 1 << atom / CELLS;
                }
            }
        }

        private void keep(int number, int values) {
            if (number < 0 || number >= RULES) {
                return;
            }
            if (keptCount >= 0 && keptCount < KEPT) {
                keptRule[keptCount] = number;
                keptValues[keptCount] = values;
            }
            keptByRule[number]++;
            keptCount++;
        }

        /** Lists the heads or elements of the instance with the bound values, each once; false if it is left out. */
        boolean listHeads(Rule rule) {
            headCount = 0;
            boolean hasSpan = rule.hasSpan();
            int end = hasSpan ? VALUES : 1;
            for (int v = 0; v < end; v++) {
                if (hasSpan) {
                    if (!sure.contains(rule.span * CELLS + v * VALUES)) {
                        continue;
                    }
                    binding.third = v;
                }
                for (int h = 0; h < rule.headCount; h++) {
                    int atom = binding.atomOf(rule.headAt(h));
                    if (atom != NONE) {
                        listHead(atom);
                    } else if (rule.kind == 'd') {
                        return false;
                    }
                }
            }
            return true;
        }

        private void listHead(int atom) {
            for (int i = 0; i < headCount; i++) {
                if (headAtomAt(i) == atom) {
                    return;
                }
            }
            if (headCount >= 0 && headCount < heads.length) {
                heads[headCount] = atom;
                headCount++;
            }
        }

        int headAtomAt(int number) {
            return number >= 0 && number < heads.length ? heads[number] : NONE;
        }

        private void numberOpenAtoms() {
            openCount = 0;
            for (int atom = 0; atom < ATOMS; atom++) {
                openNumbers[atom] = NONE;
                if (possible.contains(atom) && !sure.contains(atom) && openCount < ATOMS) {
                    openNumbers[atom] = openCount;
                    openAtoms[openCount] = atom;
                    openCount++;
                }
            }
        }

        /** The number of an open atom, or none if it is not open. */
        int openNumberOf(int atom) {
            return atom >= 0 && atom < ATOMS ? openNumbers[atom] : NONE;
        }

        int openAtomAt(int number) {
            return number >= 0 && number < ATOMS ? openAtoms[number] : NONE;
        }

        int keptOf(int rule) {
            return rule >= 0 && rule < RULES ? keptByRule[rule] : 0;
        }

        int keptRuleAt(int instance) {
            return instance >= 0 && instance < KEPT ? keptRule[instance] : NONE;
        }

        /** Binds the values of an instance that is kept, and returns its rule. */
        Rule bindKept(int instance) {
            if (instance < 0 || instance >= KEPT) {
                return null;
            }
            binding.unpack(keptValues[instance]);
            return program.ruleAt(keptRule[instance]);
        }
    }

    /** Finds the loops among open atoms, each with a row of bits for the atoms that it leads to. */
    private static final class LoopFinder {
        private final Grounding grounding;
        private final long[] rows = new long[ATOMS * PREDICATES];

        LoopFinder(Grounding grounding) {
            this.grounding = grounding;
        }

        int countLoops() {
            int nodes = grounding.openCount;
            clearRows(nodes);
            for (int i = 0; i < grounding.keptCount; i++) {
                noteInstance(i);
            }
            for (int k = 0; k < nodes; k++) {
                for (int i = 0; i < nodes; i++) {
                    if (leads(i, k)) {
                        joinRow(i, k);
                    }
                }
            }
            int loops = 0;
            for (int i = 0; i < nodes; i++) {
                if (leads(i, i) && isFirstOfLoop(i)) {
                    loops++;
                }
            }
            return loops;
        }

        private void clearRows(int nodes) {
            for (int i = 0; i < nodes * PREDICATES && i < rows.length; i++) {
                rows[i] = 0L;
            }
        }

        private void noteInstance(int instance) {
            Rule rule = grounding.bindKept(instance);
            if (rule == null || rule.neededPredicates() == 0) {
                return;
            }
            grounding.listHeads(rule);
            for (int c = 0; c < rule.conditionCount; c++) {
                Literal condition = rule.conditionAt(c);
                if (condition == null || condition.kind != 't') {
                    continue;
                }
                int to = grounding.openNumberOf(grounding.binding.atomOf(condition));
                for (int h = 0; h < grounding.headCount; h++) {
                    noteLead(grounding.openNumberOf(grounding.headAtomAt(h)), to);
                }
            }
        }

        private void noteLead(int from, int to) {
            if (from >= 0 && from < ATOMS && to >= 0 && to < ATOMS) {
                rows[from * PREDICATES + to / CELLS] |= 1L << (to % CELLS);
            }
        }

        private boolean leads(int from, int to) {
            if (from < 0 || from >= ATOMS || to < 0 || to >= ATOMS) {
                return false;
            }
            return (rows[from * PREDICATES + to / CELLS] >>> (to % CELLS) & 1L) != 0L;
        }

        private void joinRow(int into, int from) {
            if (into < 0 || into >= ATOMS || from < 0 || from >= ATOMS) {
                return;
            }
            for (int w = 0; w < PREDICATES; w++) {
                rows[into * PREDICATES + w] |= rows[from * PREDICATES + w];
            }
        }

        private boolean isFirstOfLoop(int node) {
            for (int i = 0; i < node; i++) {
                if (leads(i, node) && leads(node, i)) {
                    return false;
                }
            }
            return true;
        }
    }

    /** Instances that are kept, as masks of open atoms; sure atoms are in each set that is tried. */
    private static final class Rows {
        private final int[] rules = new int[KEPT];
        private final int[] needs = new int[KEPT];
        private final int[] bars = new int[KEPT];
        private final int[] heads = new int[KEPT];
        private final int[] lows = new int[KEPT];
        private final int[] highs = new int[KEPT];
        private int count;

        void add(int rule, int need, int bar) {
            if (count >= 0 && count < KEPT) {
                rules[count] = rule;
                needs[count] = need;
                bars[count] = bar;
                heads[count] = 0;
                lows[count] = 0;
                highs[count] = 0;
                count++;
            }
        }

        void boundLast(int headBits, int low, int high) {
            int last = count - 1;
            if (last >= 0 && last < KEPT) {
                heads[last] = headBits;
                lows[last] = low;
                highs[last] = high;
            }
        }

        int ruleAt(int row) {
            return row >= 0 && row < KEPT ? rules[row] : NONE;
        }

        int headsAt(int row) {
            return row >= 0 && row < KEPT ? heads[row] : 0;
        }

        /** Whether a set holds the body; countsHeld has a bit for each rule whose counts it holds. */
        boolean bodyHolds(int row, int set, int countsHeld) {
            if (row < 0 || row >= KEPT) {
                return false;
            }
            return (set & needs[row]) == needs[row] && (set & bars[row]) == 0 && (countsHeld >> rules[row] & 1) != 0;
        }

        boolean isBroken(int row, int set, int countsHeld) {
            if (row < 0 || row >= KEPT || !bodyHolds(row, set, countsHeld)) {
                return false;
            }
            int found = Integer.bitCount(set & heads[row]);
            return found < lows[row] || found > highs[row];
        }
    }

    /**
     * Finds answers among the sets of open atoms, each an int in which the first open atom has the highest bit,
     * so that greater ints come first in the order of answers.
     */
    private static final class Solver {
        private static final int ALL_RULES = (1 << RULES) - 1;

        private final Program program;
        private final Grounding grounding;
        private final Rows checks = new Rows();
        private final Rows weaks = new Rows();
        private final int[] active = new int[KEPT];
        private int activeCount;
        private final int[] openBits = new int[PREDICATES];
        private final int[] sureCounts = new int[PREDICATES];
        private final int[] branches = new int[2 * OPEN_IN_WALK + 2];
        private int choices;
        private int counting;
        private int freeBits;
        private int mustHave;
        private int mustLack;
        private boolean isHopeless;
        private int lastBroken;
        private boolean isCompiled;

        Solver(Program program, Grounding grounding) {
            this.program = program;
            this.grounding = grounding;
        }

        /** Call this only with at most 12 open atoms and 300 instances. */
        void prepare(AtomSet assumedIn, AtomSet assumedOut) {
            if (!isCompiled) {
                compile();
                isCompiled = true;
            }
            fitAssumptions(assumedIn, assumedOut);
        }

        private void compile() {
            for (int p = 0; p < PREDICATES; p++) {
                openBits[p] = 0;
                sureCounts[p] = grounding.sure.countOf(p);
            }
            for (int i = 0; i < grounding.openCount; i++) {
                int atom = grounding.openAtomAt(i);
                if (atom >= 0 && atom < ATOMS) {
                    openBits[atom / CELLS] |= bitOf(atom);
                }
            }
            freeBits = 0;
            for (int e = 0; e < program.externalCount; e++) {
                if (program.externalState(e) == 'u') {
                    freeBits |= bitOf(program.externalAtom(e));
                }
            }
            noteRules();
            checks.count = 0;
            weaks.count = 0;
            for (int i = 0; i < grounding.keptCount; i++) {
                compileInstance(i);
            }
            lastBroken = 0;
        }

        private void noteRules() {
            choices = 0;
            counting = 0;
            for (int r = 0; r < program.ruleCount; r++) {
                Rule rule = program.ruleAt(r);
                if (rule == null) {
                    continue;
                }
                if (rule.kind == 'c') {
                    choices |= 1 << r;
                }
                if (rule.hasCounts()) {
                    counting |= 1 << r;
                }
            }
        }

        private void compileInstance(int instance) {
            Rule rule = grounding.bindKept(instance);
            if (rule == null) {
                return;
            }
            int need = 0;
            int bar = 0;
            for (int c = 0; c < rule.conditionCount; c++) {
                Literal condition = rule.conditionAt(c);
                if (condition != null && condition.kind == 't') {
                    need |= bitOf(grounding.binding.atomOf(condition));
                } else if (condition != null && condition.kind == 'f') {
                    bar |= bitOf(grounding.binding.atomOf(condition));
                }
            }
            if ((need & bar) != 0) {
                return;
            }
            if (rule.kind == 'w') {
                weaks.add(grounding.keptRuleAt(instance), need, bar);
            } else {
                compileHeads(rule, grounding.keptRuleAt(instance), need, bar);
            }
        }

        /** Rows that no set breaks and that give no open atom are left out. */
        private void compileHeads(Rule rule, int number, int need, int bar) {
            grounding.listHeads(rule);
            int headBits = 0;
            int sureHeads = 0;
            for (int h = 0; h < grounding.headCount; h++) {
                int bit = bitOf(grounding.headAtomAt(h));
                headBits |= bit;
                sureHeads += bit == 0 ? 1 : 0;
            }
            int low = (rule.kind == 'd' ? 1 : rule.lower) - sureHeads;
            int high = rule.kind == 'd' ? HEADS : rule.upper - sureHeads;
            boolean isIdle = rule.kind == 'd' ? sureHeads > 0 : headBits == 0 && low <= 0 && high >= 0;
            if (!isIdle) {
                checks.add(number, need, bar);
                checks.boundLast(headBits, low, high);
            }
        }

        private void fitAssumptions(AtomSet assumedIn, AtomSet assumedOut) {
            mustHave = 0;
            mustLack = 0;
            isHopeless = false;
            for (int atom = 0; atom < ATOMS; atom++) {
                if (assumedIn.contains(atom)) {
                    mustHave |= bitOf(atom);
                    isHopeless = isHopeless || !grounding.possible.contains(atom);
                }
                if (assumedOut.contains(atom)) {
                    mustLack |= bitOf(atom);
                    isHopeless = isHopeless || grounding.sure.contains(atom);
                }
            }
        }

        /** 0 for an atom that is not open. */
        private int bitOf(int atom) {
            int number = grounding.openNumberOf(atom);
            int shift = grounding.openCount - 1 - number;
            return number < 0 || shift < 0 || shift >= OPEN_IN_WALK ? 0 : 1 << shift;
        }

        boolean isIn(int set, int atom) {
            return grounding.sure.contains(atom) || (set & bitOf(atom)) != 0;
        }

        int sizeOf(int set) {
            return grounding.sure.count() + Integer.bitCount(set);
        }

        int openBitsOf(int predicate) {
            return predicate >= 0 && predicate < PREDICATES ? openBits[predicate] : 0;
        }

        /** All open atoms; there are at most 12 of them. */
        private int fullSet() {
            return (1 << Math.min(OPEN_IN_WALK, grounding.openCount)) - 1;
        }

        /** Puts the answers in their order into found; false if there are too many of them. */
        boolean findAnswers(Answers found) {
            found.count = 0;
            for (int set = fullSet(); set >= 0; set--) {
                if (fits(set) && isModel(set) && !hasSmaller(set)) {
                    if (!found.insert(set, costOf(set, 1), costOf(set, 2), costOf(set, 3))) {
                        return false;
                    }
                }
            }
            return true;
        }

        /** Tries each set against each smaller one, as the document tells it. */
        int countByAll() {
            int found = 0;
            for (int set = fullSet(); set >= 0; set--) {
                if (fits(set) && isModel(set) && !hasSmallerByAll(set)) {
                    found++;
                }
            }
            return found;
        }

        private boolean fits(int set) {
            return !isHopeless && (set & mustHave) == mustHave && (set & mustLack) == 0;
        }

        /** The row that broke the last set is tried first: it often breaks the next one too. */
        private boolean isModel(int set) {
            int counts = countsHeld(set);
            if (lastBroken < checks.count && checks.isBroken(lastBroken, set, counts)) {
                return false;
            }
            for (int row = 0; row < checks.count; row++) {
                if (checks.isBroken(row, set, counts)) {
                    lastBroken = row;
                    return false;
                }
            }
            return true;
        }

        /** The rules whose counts a set holds, a bit for each. */
        private int countsHeld(int set) {
            int held = ALL_RULES;
            for (int r = 0; counting >> r != 0 && r < RULES; r++) {
                if ((counting >> r & 1) != 0 && !countsHold(program.ruleAt(r), set)) {
                    held &= ~(1 << r);
                }
            }
            return held;
        }

        private boolean countsHold(Rule rule, int set) {
            if (rule == null) {
                return false;
            }
            for (int c = 0; c < rule.conditionCount; c++) {
                Literal condition = rule.conditionAt(c);
                if (condition != null && condition.isCount() && !countHolds(condition, set)) {
                    return false;
                }
            }
            return true;
        }

        private boolean countHolds(Literal count, int set) {
            int predicate = count.predicate;
            if (predicate < 0 || predicate >= PREDICATES) {
                return false;
            }
            int found = sureCounts[predicate] + Integer.bitCount(set & openBits[predicate]);
            return count.kind == 'g' ? found >= count.bound : found <= count.bound;
        }

        /**
         * Whether a smaller set does for an answer too. What a body asks to be false, or to be few, a smaller set
         * holds as well, so that growing from below reaches all least sets; two heads are two branches.
         */
        private boolean hasSmaller(int answer) {
            listActive(answer);
            branches[0] = answer & freeBits;
            int waiting = 1;
            for (int step = 0; waiting > 0 && waiting < branches.length && step < STEPS; step++) {
                waiting--;
                int set = grow(branches[waiting], answer);
                int split = headsToSplit(set, answer);
                if (split == 0) {
                    if (set != answer) {
                        return true;
                    }
                } else if (waiting + 1 < branches.length) {
                    int lowest = split & -split;
                    branches[waiting] = set | lowest;
                    branches[waiting + 1] = set | split & ~lowest;
                    waiting += 2;
                }
            }
            return false;
        }

        private void listActive(int answer) {
            int counts = countsHeld(answer);
            activeCount = 0;
            for (int row = 0; row < checks.count; row++) {
                boolean gives = (checks.headsAt(row) & answer) != 0;
                if (gives && checks.bodyHolds(row, answer, counts) && activeCount < KEPT) {
                    active[activeCount] = row;
                    activeCount++;
                }
            }
        }

        private boolean isChoice(int row) {
            int rule = checks.ruleAt(row);
            return rule >= 0 && (choices >> rule & 1) != 0;
        }

        private int grow(int from, int answer) {
            int set = from;
            boolean grew = true;
            for (int round = 0; grew && round < ROUNDS; round++) {
                int before = set;
                int counts = countsHeld(set);
                for (int i = 0; i < activeCount && i < KEPT; i++) {
                    int row = active[i];
                    int given = checks.headsAt(row) & answer;
                    boolean isForced = isChoice(row) || (given & given - 1) == 0;
                    if (isForced && (given & ~set) != 0 && checks.bodyHolds(row, set, counts)) {
                        set |= given;
                    }
                }
                grew = set != before;
            }
            return set;
        }

        /** The two heads in the answer of a disjunction that the set breaks, or 0. */
        private int headsToSplit(int set, int answer) {
            int counts = countsHeld(set);
            for (int i = 0; i < activeCount && i < KEPT; i++) {
                int row = active[i];
                int given = checks.headsAt(row) & answer;
                if (!isChoice(row) && (given & set) == 0 && checks.bodyHolds(row, set, counts)) {
                    return given;
                }
            }
            return 0;
        }

        private boolean hasSmallerByAll(int answer) {
            listActive(answer);
            for (int set = 0; set < answer; set++) {
                if ((set & ~answer) == 0 && doesFor(set, answer)) {
                    return true;
                }
            }
            return false;
        }

        private boolean doesFor(int set, int answer) {
            if ((answer & freeBits & ~set) != 0) {
                return false;
            }
            int counts = countsHeld(set);
            for (int i = 0; i < activeCount && i < KEPT; i++) {
                int row = active[i];
                int given = checks.headsAt(row) & answer;
                boolean isDone = isChoice(row) ? (given & ~set) == 0 : (given & set) != 0;
                if (!isDone && checks.bodyHolds(row, set, counts)) {
                    return false;
                }
            }
            return true;
        }

        private long costOf(int set, int level) {
            long sum = 0L;
            int counts = countsHeld(set);
            for (int row = 0; row < weaks.count; row++) {
                Rule rule = program.ruleAt(weaks.ruleAt(row));
                if (rule != null && rule.level == level && weaks.bodyHolds(row, set, counts)) {
                    sum += rule.weight;
                }
            }
            return sum;
        }

        /** Instances are kept in the order of their rules, so the first one has the lowest rule. */
        int reasonFor(int set, int atom) {
            for (int i = 0; i < grounding.keptCount && i < KEPT; i++) {
                Rule rule = grounding.bindKept(i);
                if (rule != null && rule.kind != 'w' && bodyHolds(rule, set) && gives(rule, set, atom)) {
                    return grounding.keptRuleAt(i);
                }
            }
            int external = program.externalOf(atom);
            char state = program.externalState(external);
            return state == 't' || state == 'u' ? 100 + external : NONE;
        }

        private boolean bodyHolds(Rule rule, int set) {
            for (int c = 0; c < rule.conditionCount; c++) {
                Literal condition = rule.conditionAt(c);
                if (condition != null && !conditionHolds(condition, set)) {
                    return false;
                }
            }
            return true;
        }

        private boolean conditionHolds(Literal condition, int set) {
            if (condition.isCount()) {
                return countHolds(condition, set);
            }
            if (condition.kind == 't') {
                return isIn(set, grounding.binding.atomOf(condition));
            }
            if (condition.kind == 'f') {
                return !isIn(set, grounding.binding.atomOf(condition));
            }
            return grounding.binding.testHolds(condition);
        }

        /** Whether the bound instance has the atom as an element, or as its only head in the set. */
        private boolean gives(Rule rule, int set, int atom) {
            grounding.listHeads(rule);
            boolean isHead = false;
            boolean isOnly = true;
            for (int h = 0; h < grounding.headCount; h++) {
                int head = grounding.headAtomAt(h);
                if (head == atom) {
                    isHead = true;
                } else if (isIn(set, head)) {
                    isOnly = false;
                }
            }
            return isHead && (rule.kind == 'c' || isOnly);
        }
    }

    /** The answers of a walk in their order. */
    private static final class Answers {
        private final int[] sets = new int[ANSWERS];
        private final long[] costs = new long[ANSWERS * LEVELS];
        private int count;
        private boolean isKept;

        /** Behind those that cost as much; false if there is no room. */
        boolean insert(int set, long low, long middle, long high) {
            if (count < 0 || count >= ANSWERS) {
                return false;
            }
            int place = count;
            for (int i = count; i > 0 && isDearer(i - 1, low, middle, high); i--) {
                copy(i - 1, i);
                place = i - 1;
            }
            sets[place] = set;
            costs[place * LEVELS] = low;
            costs[place * LEVELS + 1] = middle;
            costs[place * LEVELS + 2] = high;
            count++;
            return true;
        }

        private boolean isDearer(int answer, long low, long middle, long high) {
            if (costAt(answer, 3) != high) {
                return costAt(answer, 3) > high;
            }
            if (costAt(answer, 2) != middle) {
                return costAt(answer, 2) > middle;
            }
            return costAt(answer, 1) > low;
        }

        private void copy(int from, int to) {
            if (from < 0 || from >= ANSWERS || to < 0 || to >= ANSWERS) {
                return;
            }
            sets[to] = sets[from];
            for (int i = 0; i < LEVELS; i++) {
                costs[to * LEVELS + i] = costs[from * LEVELS + i];
            }
        }

        int setAt(int answer) {
            return answer >= 0 && answer < ANSWERS ? sets[answer] : 0;
        }

        long costAt(int answer, int level) {
            boolean isThere = answer >= 0 && answer < ANSWERS && level >= 1 && level <= LEVELS;
            return isThere ? costs[answer * LEVELS + level - 1] : 0L;
        }

        int countBest() {
            int found = 0;
            for (int i = 0; i < count; i++) {
                boolean isAsFirst = true;
                for (int level = 1; level <= LEVELS; level++) {
                    isAsFirst = isAsFirst && costAt(i, level) == costAt(0, level);
                }
                found += isAsFirst ? 1 : 0;
            }
            return found;
        }

        int countDifferent(int bits) {
            int found = 0;
            for (int i = 0; i < count; i++) {
                boolean isNew = true;
                for (int j = 0; j < i && isNew; j++) {
                    isNew = (setAt(i) & bits) != (setAt(j) & bits);
                }
                found += isNew ? 1 : 0;
            }
            return found;
        }
    }
}
