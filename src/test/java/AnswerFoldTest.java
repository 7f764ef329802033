import java.util.NoSuchElementException;

/** Each promise by hand: ordinary inputs, edges, wrong inputs, and limits. */
public final class AnswerFoldTest {
    private static final Class<?> INDEX = IndexOutOfBoundsException.class;
    private static final Class<?> ARGUMENT = IllegalArgumentException.class;
    private static final Class<?> STATE = IllegalStateException.class;
    private static final Class<?> UNSUPPORTED = UnsupportedOperationException.class;
    private static final Class<?> NO_ELEMENT = NoSuchElementException.class;
    private static final Class<?> ARITHMETIC = ArithmeticException.class;
    private static final int X = 10;
    private static final int Y = 11;
    private static final int Z = 12;
    private static final int PARAMETER = 40;
    private static int checks = 0;
    private static int wrong = 0;

    private interface Call {
        Object answer();
    }

    private static void due(String what, Object got, Object want) {
        checks++;
        if (!want.equals(got)) {
            wrong++;
            System.out.println(what + " answered " + got + ", due is " + want);
        }
    }

    private static void refused(String what, Class<?> want, Call call) {
        checks++;
        Object got;
        try {
            got = call.answer();
        } catch (RuntimeException e) {
            got = e.getClass();
        }
        if (got != want) {
            wrong++;
            System.out.println(what + " answered " + got + ", due is " + want);
        }
    }

    public static void main(String[] args) {
        newObject();
        predicates();
        disjunctions();
        choices();
        weakRules();
        heads();
        atomsInBodies();
        tests();
        counts();
        grounding();
        externals();
        settingExternals();
        assumptions();
        statesAndOpen();
        localVariables();
        instances();
        loops();
        loopsLimits();
        walks();
        walkLimits();
        walkByAll();
        hasAndSize();
        costsAndOrder();
        bestAndProjected();
        holdsAndShare();
        reasons();
        commonest();
        meanSize();
        noAnswers();
        whatDropsTheWalk();
        throwsChangeNothing();
        leastSets();
        System.out.println(checks + " checks, " + wrong + " wrong");
        if (wrong != 0) {
            System.exit(1);
        }
    }

    // ---- what the tests say often

    private static AnswerFold with(int... places) {
        AnswerFold x = new AnswerFold();
        for (int n : places) {
            x.addPredicate(n);
        }
        return x;
    }

    private static int fact(AnswerFold x, int predicate, int first, int second) {
        int rule = x.addDisjunction(0);
        x.addHead(rule, predicate, first, second);
        return rule;
    }

    /** Atoms without places: head if all of these are true (n) or false (-1 - n). */
    private static int rule(AnswerFold x, int head, int... body) {
        int rule = x.addDisjunction(0);
        if (head >= 0) {
            x.addHead(rule, head, 0, 0);
        }
        for (int b : body) {
            x.addAtom(rule, b >= 0, b >= 0 ? b : -1 - b, 0, 0);
        }
        return rule;
    }

    private static int either(AnswerFold x, int one, int two) {
        int rule = rule(x, one);
        x.addHead(rule, two, 0, 0);
        return rule;
    }

    private static int choose(AnswerFold x, int lower, int upper, int... heads) {
        int rule = x.addChoice(0, lower, upper, -1);
        for (int h : heads) {
            x.addHead(rule, h, 0, 0);
        }
        return rule;
    }

    /** A domain with these values, as the predicate 0, and a choice over it of atoms of the predicate 1. */
    private static AnswerFold chooser(int values, int lower, int upper) {
        AnswerFold x = with(1, 1, 1);
        for (int v = 0; v < values; v++) {
            fact(x, 0, v, 0);
        }
        int rule = x.addChoice(0, lower, upper, 0);
        x.addHead(rule, 1, Z, 0);
        return x;
    }

    /** The sizes of all answers, in their order. */
    private static String sizes(AnswerFold x) {
        StringBuilder all = new StringBuilder();
        int n = x.walk();
        for (int i = 0; i < n; i++) {
            all.append(x.size(i)).append(' ');
        }
        return all.toString();
    }

    // ---- the promises

    private static void newObject() {
        AnswerFold x = new AnswerFold();
        due("open of nothing", x.open(), 0);
        due("loops of nothing", x.loops(), 0);
        refused("best before a walk", STATE, () -> x.best());
        due("walk of nothing", x.walk(), 1);
        due("walkByAll of nothing", x.walkByAll(), 1);
        due("size of the empty answer", x.size(0), 0);
        due("cost of the empty answer", x.cost(0, 3), 0L);
        refused("no rule", INDEX, () -> x.instances(0));
        refused("no predicate", INDEX, () -> x.state(0, 0, 0));
        refused("no external", INDEX, () -> x.setExternal(0, 't'));
        due("nothing is assumed", x.dropAssumptions(), 0);
    }

    private static void predicates() {
        AnswerFold x = new AnswerFold();
        refused("places -1", ARGUMENT, () -> x.addPredicate(-1));
        refused("places 3", ARGUMENT, () -> x.addPredicate(3));
        for (int i = 0; i < 6; i++) {
            due("predicate", x.addPredicate(i % 3), i);
        }
        refused("a seventh", STATE, () -> x.addPredicate(0));
        refused("a seventh with 3 places", ARGUMENT, () -> x.addPredicate(3));
        refused("far out", ARGUMENT, () -> x.addPredicate(Integer.MIN_VALUE));
    }

    private static void disjunctions() {
        AnswerFold x = with(0);
        refused("part -1", ARGUMENT, () -> x.addDisjunction(-1));
        refused("part 4", ARGUMENT, () -> x.addDisjunction(4));
        for (int i = 0; i < 20; i++) {
            due("rule", x.addDisjunction(3), i);
        }
        refused("rule 20", STATE, () -> x.addDisjunction(0));
        refused("choice 20", STATE, () -> x.addChoice(0, 0, 0, -1));
        refused("weak rule 20", STATE, () -> x.addWeak(0, 0, 1));
        refused("rule 20 of part 4", ARGUMENT, () -> x.addDisjunction(4));
        refused("choice 20 of part 4", ARGUMENT, () -> x.addChoice(4, 0, 0, -1));
        refused("weak rule 20 of level 4", ARGUMENT, () -> x.addWeak(0, 0, 4));
        due("rules of parts that are not grounded do not matter", x.walk(), 1);

        AnswerFold y = with(0, 0);
        either(y, 0, 1);
        due("one of two", y.walk(), 2);
        due("the first one first", y.has(0, 0, 0, 0), true);
        rule(y, -1, 0);
        due("a disjunction without heads forbids its body", y.walk(), 1);
        due("the other one is left", y.has(0, 1, 0, 0), true);
    }

    private static void choices() {
        AnswerFold x = with(0, 1, 2);
        refused("part", ARGUMENT, () -> x.addChoice(-1, 0, 1, -1));
        refused("lower -1", ARGUMENT, () -> x.addChoice(0, -1, 1, -1));
        refused("upper less", ARGUMENT, () -> x.addChoice(0, 2, 1, -1));
        refused("upper 10", ARGUMENT, () -> x.addChoice(0, 0, 10, -1));
        refused("lower 10", ARGUMENT, () -> x.addChoice(0, 10, 10, -1));
        refused("span without places", ARGUMENT, () -> x.addChoice(0, 0, 1, 0));
        refused("span with two places", ARGUMENT, () -> x.addChoice(0, 0, 1, 2));
        refused("no such span", ARGUMENT, () -> x.addChoice(0, 0, 1, 3));
        refused("span -2", ARGUMENT, () -> x.addChoice(0, 0, 1, -2));
        due("span", x.addChoice(0, 0, 9, 1), 0);
        due("bounds 9", x.addChoice(0, 9, 9, -1), 1);
        due("bounds 9 of no elements", x.walk(), 0);

        due("0 to 1 of 3", chooser(3, 0, 1).walk(), 4);
        due("1 to 2 of 3", chooser(3, 1, 2).walk(), 6);
        due("3 of 3", chooser(3, 3, 3).walk(), 1);
        due("4 of 3", chooser(3, 4, 9).walk(), 0);
        due("0 of 3", chooser(3, 0, 0).walk(), 1);

        AnswerFold once = with(1);
        int r = once.addChoice(0, 1, 1, -1);
        once.addHead(r, 0, 3, 0);
        once.addHead(r, 0, 3, 0);
        due("the same head twice counts once", once.walk(), 1);
        due("and is in it", once.has(0, 0, 3, 0), true);

        AnswerFold sure = with(0, 0);
        fact(sure, 0, 0, 0);
        choose(sure, 1, 1, 0, 1);
        due("a sure element counts", sizes(sure), "1 ");
        choose(sure, 2, 2, 0, 0);
        due("but once", sure.walk(), 0);

        AnswerFold noVariable = with(1, 0);
        fact(noVariable, 0, 1, 0);
        fact(noVariable, 0, 2, 0);
        int s = noVariable.addChoice(0, 2, 2, 0);
        noVariable.addHead(s, 1, 0, 0);
        due("elements that are the same atom count once", noVariable.walk(), 0);

        AnswerFold edge = with(1, 1);
        fact(edge, 0, 6, 0);
        fact(edge, 0, 7, 0);
        int t = edge.addChoice(0, 0, 2, 0);
        edge.addHead(t, 1, 22, 0);
        due("an element out of range is left out alone", edge.walk(), 2);
        due("the other one is open", edge.state(1, 7, 0), 'o');
        due("and the instance is kept", edge.instances(t), 1);

        AnswerFold open = with(1, 1);
        int u = open.addChoice(0, 0, 1, -1);
        open.addHead(u, 0, 1, 0);
        int v = open.addChoice(0, 0, 1, 0);
        open.addHead(v, 1, Z, 0);
        due("only sure atoms of the span count", open.state(1, 1, 0), 'n');
        due("a choice without elements is kept", open.instances(v), 1);
    }

    private static void weakRules() {
        AnswerFold x = with(0);
        refused("part", ARGUMENT, () -> x.addWeak(4, 0, 1));
        refused("weight 100", ARGUMENT, () -> x.addWeak(0, 100, 1));
        refused("weight -100", ARGUMENT, () -> x.addWeak(0, -100, 1));
        refused("level 0", ARGUMENT, () -> x.addWeak(0, 0, 0));
        refused("level 4", ARGUMENT, () -> x.addWeak(0, 0, 4));
        due("first", x.addWeak(0, 99, 1), 0);
        due("second", x.addWeak(0, -99, 3), 1);
        due("third", x.addWeak(1, 50, 3), 2);
        x.walk();
        due("cost 1", x.cost(0, 1), 99L);
        due("cost 2", x.cost(0, 2), 0L);
        due("cost 3", x.cost(0, 3), -99L);
        x.ground(1, 0);
        x.ground(1, 5);
        x.walk();
        due("once for each time", x.cost(0, 3), 1L);
    }

    private static void heads() {
        AnswerFold x = with(0, 1, 2);
        int d = x.addDisjunction(0);
        int w = x.addWeak(0, 1, 1);
        refused("no rule", INDEX, () -> x.addHead(2, 0, 0, 0));
        refused("rule -1", INDEX, () -> x.addHead(-1, 0, 0, 0));
        refused("no predicate", INDEX, () -> x.addHead(d, 3, 0, 0));
        refused("predicate -1", INDEX, () -> x.addHead(d, -1, 0, 0));
        int[] bad = {-1, 8, 9, 13, 19, 23, 29, 33, 39, 41, 49, 51, 60, Integer.MAX_VALUE, Integer.MIN_VALUE};
        for (int term : bad) {
            refused("term " + term, ARGUMENT, () -> x.addHead(d, 1, term, 0));
            refused("second term " + term, ARGUMENT, () -> x.addHead(d, 2, 0, term));
            refused("body term " + term, ARGUMENT, () -> x.addAtom(d, true, 1, term, 0));
            refused("test term " + term, ARGUMENT, () -> x.addTest(d, '<', 0, term));
        }
        refused("weak rule, bad term", ARGUMENT, () -> x.addHead(w, 1, 8, 0));
        refused("weak rule", STATE, () -> x.addHead(w, 1, 7, 0));
        due("a term of no meaning", x.addHead(d, 0, 99, -5), 1);
        due("the second one too", x.addHead(d, 1, 7, 99), 2);
        refused("a third head", STATE, () -> x.addHead(d, 1, 0, 0));
        refused("a third head, bad term", ARGUMENT, () -> x.addHead(d, 1, 8, 0));
        refused("a third head, no predicate", INDEX, () -> x.addHead(d, 7, 8, 0));
        int[] good = {0, 7, 10, 12, 20, 22, 30, 32, 40, 50};
        for (int term : good) {
            AnswerFold y = with(2);
            y.addDisjunction(0);
            due("term " + term, y.addHead(0, 0, term, term), 1);
        }
    }

    private static void atomsInBodies() {
        AnswerFold x = with(0, 1, 2);
        fact(x, 1, 3, 0);
        int d = x.addDisjunction(0);
        x.addHead(d, 2, X, 20);
        due("first condition", x.addAtom(d, true, 1, X, 99), 1);
        refused("no rule", INDEX, () -> x.addAtom(9, true, 0, 0, 0));
        refused("no predicate", INDEX, () -> x.addAtom(d, true, 3, 0, 0));
        refused("no term", ARGUMENT, () -> x.addAtom(d, true, 1, 8, 0));
        due("head with plus 1", x.state(2, 3, 4), 's');
        due("no other", x.state(2, 3, 3), 'n');
        for (int i = 2; i <= 5; i++) {
            due("condition", x.addAtom(d, false, 0, 99, 99), i);
        }
        refused("a sixth", STATE, () -> x.addAtom(d, true, 0, 0, 0));
        refused("a sixth, bad term", ARGUMENT, () -> x.addAtom(d, true, 1, 9, 0));
        refused("a sixth test", STATE, () -> x.addTest(d, '<', 0, 0));
        refused("a sixth count", STATE, () -> x.addCount(d, 'g', 0, 0));
        due("with atoms that are to be false it is not sure", x.state(2, 3, 4), 'o');

        AnswerFold y = with(1, 0, 0);
        fact(y, 0, 0, 0);
        int a = y.addDisjunction(0);
        y.addHead(a, 1, 0, 0);
        y.addAtom(a, true, 0, 50, 0);
        int b = y.addDisjunction(0);
        y.addHead(b, 2, 0, 0);
        y.addAtom(b, false, 0, 50, 0);
        due("an atom out of range is false", y.state(1, 0, 0), 'n');
        due("and holds if it is to be false", y.state(2, 0, 0), 'o');
        due("kept 0", y.instances(a), 0);
        due("kept 1", y.instances(b), 1);
        due("one answer", sizes(y), "2 ");
    }

    private static void localVariables() {
        AnswerFold x = with(1, 2);
        int c = x.addChoice(0, 0, 9, 0);
        for (int term : new int[] {12, 22, 32}) {
            refused("local in an atom", ARGUMENT, () -> x.addAtom(c, true, 0, term, 0));
            refused("local in a test", ARGUMENT, () -> x.addTest(c, '=', term, 0));
            refused("local in a test", ARGUMENT, () -> x.addTest(c, '=', 0, term));
        }
        due("of no meaning there", x.addAtom(c, false, 0, 3, Z), 1);
        int plain = x.addChoice(0, 0, 9, -1);
        due("not local without a span", x.addAtom(plain, true, 0, Z, 0), 1);
        due("nor here", x.addTest(plain, '<', Z, 32), 2);
        int d = x.addDisjunction(0);
        due("nor in a disjunction", x.addAtom(d, true, 0, 22, 0), 1);

        AnswerFold y = with(1, 2, 1);
        for (int v = 0; v < 3; v++) {
            fact(y, 0, v, 0);
        }
        int s = y.addChoice(0, 1, 1, 0);
        y.addHead(s, 1, X, Z);
        y.addAtom(s, true, 0, X, 0);
        due("an instance for each value of the variable 0", y.instances(s), 3);
        due("nine elements", y.open(), 9);
        due("3 times 1 of 3", y.walk(), 27);
    }

    private static void tests() {
        AnswerFold x = with(2);
        int d = x.addDisjunction(0);
        x.addHead(d, 0, X, Y);
        refused("no rule", INDEX, () -> x.addTest(1, '<', 0, 0));
        refused("no test", ARGUMENT, () -> x.addTest(d, '>', 0, 0));
        refused("no test, no rule", INDEX, () -> x.addTest(-1, '>', 0, 0));
        refused("no term", ARGUMENT, () -> x.addTest(d, '<', 8, 0));
        due("64", x.instances(d), 64);
        due("less", x.addTest(d, '<', X, Y), 1);
        due("28", x.instances(d), 28);
        due("unequal", x.addTest(d, '!', 20, Y), 2);
        due("21", x.instances(d), 21);
        due("equal", x.addTest(d, '=', 20, 31), 3);
        due("6", x.instances(d), 6);
        due("all sure", x.state(0, 5, 7), 's');
        due("no open ones", x.open(), 0);

        AnswerFold y = with(1, 0);
        int e = y.addDisjunction(0);
        y.addHead(e, 0, X, 0);
        y.addTest(e, '=', 30, 50);
        due("values in tests may be out of range", y.instances(e), 1);
        due("-1 is -1", y.state(0, 0, 0), 's');
        int f = y.addDisjunction(0);
        y.addHead(f, 1, 0, 0);
        y.addTest(f, '<', 7, 21);
        due("8 is more than 7", y.instances(f), 1);
        due("a variable in a test alone is chosen", y.state(1, 0, 0), 's');
    }

    private static void counts() {
        AnswerFold x = chooser(3, 0, 3);
        int r = x.addDisjunction(0);
        x.addHead(r, 2, 0, 0);
        refused("no rule", INDEX, () -> x.addCount(9, 'g', 0, 0));
        refused("no predicate", INDEX, () -> x.addCount(r, 'g', 3, 0));
        refused("no kind", ARGUMENT, () -> x.addCount(r, 'e', 0, 0));
        refused("bound -1", ARGUMENT, () -> x.addCount(r, 'g', 0, -1));
        refused("bound 21", ARGUMENT, () -> x.addCount(r, 'l', 0, 21));
        due("count", x.addCount(r, 'g', 1, 2), 1);
        due("what depends on a count is open", x.state(2, 0, 0), 'o');
        x.walk();
        due("4 of 8 have two or three", x.share(2, 0, 0), 0.5f);
        due("another", x.addCount(r, 'l', 1, 2), 2);
        x.walk();
        due("3 of 8 have two", x.share(2, 0, 0), 0.375f);
        due("bound 20", x.addCount(r, 'l', 0, 20), 3);
        due("bound 20, at least", x.addCount(r, 'g', 0, 20), 4);
        x.walk();
        due("never so many", x.holds(2, 0, 0), 'n');
        due("counts do not matter for what is possible", x.state(2, 0, 0), 'o');
        due("nor for what is kept", x.instances(r), 1);

        AnswerFold sure = with(1, 0);
        fact(sure, 0, 1, 0);
        fact(sure, 0, 2, 0);
        int s = sure.addDisjunction(0);
        sure.addHead(s, 1, 0, 0);
        sure.addCount(s, 'g', 0, 2);
        sure.addCount(s, 'l', 0, 2);
        due("sure atoms are counted", sizes(sure), "3 ");

        AnswerFold self = with(0, 0);
        int t = self.addDisjunction(0);
        self.addHead(t, 0, 0, 0);
        self.addCount(t, 'g', 0, 1);
        due("an atom does not hold itself up by a count", sizes(self), "0 ");
        int u = self.addDisjunction(0);
        self.addHead(u, 1, 0, 0);
        self.addCount(u, 'l', 1, 0);
        due("an atom that takes away its own count", self.walk(), 0);
        due("by all", self.walkByAll(), 0);
    }

    private static void grounding() {
        AnswerFold x = with(1, 1);
        int a = x.addDisjunction(1);
        x.addHead(a, 0, PARAMETER, 0);
        int b = x.addDisjunction(1);
        x.addHead(b, 1, 50, 0);
        refused("part 0", ARGUMENT, () -> x.ground(0, 0));
        refused("part 4", ARGUMENT, () -> x.ground(4, 0));
        refused("parameter -1", ARGUMENT, () -> x.ground(1, -1));
        refused("parameter 8", ARGUMENT, () -> x.ground(1, 8));
        due("not grounded", x.state(0, 0, 0), 'n');
        due("none", x.instances(a), 0);
        due("once", x.ground(1, 0), 1);
        due("0", x.state(0, 0, 0), 's');
        due("a head out of range leaves the instance out", x.instances(b), 0);
        due("twice", x.ground(1, 7), 2);
        due("7", x.state(0, 7, 0), 's');
        due("7 minus 1", x.state(1, 6, 0), 's');
        due("two", x.instances(a), 2);
        due("one", x.instances(b), 1);
        refused("the same", STATE, () -> x.ground(1, 7));
        due("another part with it", x.ground(2, 7), 3);
        for (int i = 4; i <= 6; i++) {
            due("ground", x.ground(3, i), i);
        }
        refused("a seventh time", STATE, () -> x.ground(3, 1));
        refused("a seventh time, out of range", ARGUMENT, () -> x.ground(3, 8));
        int late = x.addDisjunction(3);
        x.addHead(late, 1, PARAMETER, 0);
        due("a rule told after its part was grounded", x.state(1, 5, 0), 's');
        due("three", x.instances(late), 3);

        AnswerFold y = with(1);
        int zero = y.addDisjunction(0);
        y.addHead(zero, 0, PARAMETER, 0);
        due("the part 0 has the parameter 0", y.state(0, 0, 0), 's');
    }

    private static void externals() {
        AnswerFold x = with(0, 1, 2);
        refused("no predicate", INDEX, () -> x.addExternal(3, 0, 0));
        refused("no value", ARGUMENT, () -> x.addExternal(1, 8, 0));
        refused("no second value", ARGUMENT, () -> x.addExternal(2, 0, -1));
        refused("terms are no values", ARGUMENT, () -> x.addExternal(1, 10, 0));
        due("first", x.addExternal(0, 99, -3), 0);
        due("it is false", x.state(0, 0, 0), 'n');
        refused("the same", STATE, () -> x.addExternal(0, 1, 2));
        for (int i = 1; i < 6; i++) {
            due("external", x.addExternal(2, i, i), i);
        }
        refused("a seventh", STATE, () -> x.addExternal(1, 0, 0));
        refused("a seventh, no value", ARGUMENT, () -> x.addExternal(1, 8, 0));
        due("nothing is possible by them", x.open(), 0);
        due("one answer", x.walk(), 1);
    }

    private static void settingExternals() {
        AnswerFold x = with(0, 0);
        rule(x, 1, 0);
        x.addExternal(0, 0, 0);
        refused("no external", INDEX, () -> x.setExternal(1, 't'));
        refused("external -1", INDEX, () -> x.setExternal(-1, 't'));
        refused("no state", ARGUMENT, () -> x.setExternal(0, 'T'));
        due("false before", x.setExternal(0, 'u'), 'f');
        due("free is open", x.state(0, 0, 0), 'o');
        due("and what follows", x.state(1, 0, 0), 'o');
        due("with it first", sizes(x), "2 0 ");
        due("free before", x.setExternal(0, 't'), 'u');
        due("true is sure", x.state(0, 0, 0), 's');
        due("and what follows", x.state(1, 0, 0), 's');
        due("one", sizes(x), "2 ");
        due("true before", x.setExternal(0, 'f'), 't');
        due("none", sizes(x), "0 ");
        due("false before", x.setExternal(0, 'f'), 'f');
        due("released", x.setExternal(0, 'r'), 'f');
        refused("for good", STATE, () -> x.setExternal(0, 'r'));
        refused("for good, no state", ARGUMENT, () -> x.setExternal(0, 'q'));
        refused("its atom stays one", STATE, () -> x.addExternal(0, 0, 0));
        due("none", sizes(x), "0 ");
        fact(x, 0, 0, 0);
        due("by rules all the same", sizes(x), "2 ");
    }

    private static void assumptions() {
        AnswerFold x = with(0, 0, 1);
        either(x, 0, 1);
        refused("no predicate", INDEX, () -> x.assume(3, 0, 0, true));
        refused("no value", ARGUMENT, () -> x.assume(2, 8, 0, true));
        due("one", x.assume(0, 0, 0, true), 1);
        due("one fits", x.walk(), 1);
        due("by all", x.walkByAll(), 1);
        due("it has it", x.has(0, 0, 0, 0), true);
        due("in place of it", x.assume(0, 0, 0, false), 1);
        due("the other fits", x.walk(), 1);
        due("it lacks it", x.has(0, 0, 0, 0), false);
        due("two", x.assume(1, 0, 0, false), 2);
        due("none fits", x.walk(), 0);
        due("three", x.assume(2, 5, 77, false), 3);
        due("of no meaning there", x.assume(2, 5, -8, false), 3);
        due("dropped", x.dropAssumptions(), 3);
        due("both", x.walk(), 2);
        due("dropped none", x.dropAssumptions(), 0);
        x.assume(2, 5, 0, true);
        due("what is not possible is in none", x.walk(), 0);
        due("by all", x.walkByAll(), 0);
        x.assume(2, 5, 0, false);
        due("and out of all", x.walk(), 2);
        fact(x, 2, 5, 0);
        due("what is sure is not out", x.walk(), 0);
        x.assume(2, 5, 0, true);
        due("but in", x.walk(), 2);
        due("assumptions change no states", x.state(0, 0, 0), 'o');
    }

    private static void statesAndOpen() {
        AnswerFold x = with(0, 1, 2);
        refused("no predicate", INDEX, () -> x.state(-1, 0, 0));
        refused("no value", ARGUMENT, () -> x.state(1, -1, 0));
        refused("no second value", ARGUMENT, () -> x.state(2, 0, 8));
        due("of no meaning", x.state(0, -1, 8), 'n');
        fact(x, 1, 2, 0);
        int d = x.addDisjunction(0);
        x.addHead(d, 2, X, 30);
        x.addAtom(d, true, 1, X, 0);
        due("sure by a rule", x.state(2, 2, 1), 's');
        int two = x.addDisjunction(0);
        x.addHead(two, 1, 4, 0);
        x.addHead(two, 1, 5, 0);
        due("two heads are open", x.state(1, 4, 0), 'o');
        due("and what follows", x.state(2, 5, 4), 'o');
        due("open", x.open(), 4);
        int not = x.addDisjunction(0);
        x.addHead(not, 0, 0, 0);
        x.addAtom(not, false, 1, 2, 0);
        due("not by what is sure", x.state(0, 0, 0), 'n');
        due("open", x.open(), 4);
        int chain = x.addDisjunction(0);
        x.addHead(chain, 1, 20, 0);
        x.addAtom(chain, true, 1, X, 0);
        due("a chain from 2 to 7", x.state(1, 7, 0), 's');
        due("not below", x.state(1, 1, 0), 'n');
        due("open no more", x.open(), 0);

        AnswerFold y = with(0, 0);
        rule(y, 0, 1);
        rule(y, 1, 0);
        due("a loop is not possible by itself", y.state(0, 0, 0), 'n');
        due("open", y.open(), 0);
        due("kept", y.instances(0), 0);
    }

    private static void instances() {
        AnswerFold x = with(1, 2);
        int all = x.addDisjunction(0);
        due("no variable", x.instances(all), 1);
        x.addHead(all, 1, X, Y);
        due("two variables", x.instances(all), 64);
        x.addAtom(all, true, 0, Z, 0);
        due("not possible", x.instances(all), 0);
        fact(x, 0, 4, 0);
        due("one value of the third", x.instances(all), 64);
        int weak = x.addWeak(0, 1, 1);
        x.addAtom(weak, true, 1, X, X);
        due("weak", x.instances(weak), 8);
        int none = x.addDisjunction(0);
        x.addAtom(none, false, 1, 0, X);
        due("not by what is sure", x.instances(none), 0);
        int out = x.addDisjunction(0);
        x.addHead(out, 0, 20, 0);
        x.addHead(out, 0, X, 0);
        due("a head out of range", x.instances(out), 7);
        refused("no rule", INDEX, () -> x.instances(5));
        refused("rule -1", INDEX, () -> x.instances(-1));

        AnswerFold big = with(2, 2);
        int many = big.addDisjunction(1);
        big.addHead(many, 0, X, Y);
        big.addHead(many, 1, Y, Z);
        for (int p = 0; p < 6; p++) {
            big.ground(1, p);
        }
        due("512 for each time", big.instances(many), 3072);
        due("open", big.open(), 128);
        refused("loops of them", UNSUPPORTED, () -> big.loops());
        refused("walk of them", UNSUPPORTED, () -> big.walk());
        refused("walkByAll of them", UNSUPPORTED, () -> big.walkByAll());
    }

    private static void loops() {
        AnswerFold x = with(0, 0, 0, 0, 0);
        choose(x, 0, 5, 0, 1);
        choose(x, 0, 5, 2, 3);
        due("no loops", x.loops(), 0);
        rule(x, 0, 1);
        due("one way", x.loops(), 0);
        rule(x, 1, 0);
        due("both ways", x.loops(), 1);
        rule(x, 2, 2);
        due("to itself", x.loops(), 2);
        rule(x, 2, 3);
        int r = rule(x, 3, -3);
        due("atoms to be false lead nowhere", x.loops(), 2);
        rule(x, 3, 0);
        due("between loops", x.loops(), 2);
        x.addAtom(r, true, 2, 0, 0);
        due("a larger one", x.loops(), 2);
        rule(x, 1, 2);
        due("all in one", x.loops(), 1);
        fact(x, 0, 0, 0);
        fact(x, 1, 0, 0);
        due("sure atoms are in no loop", x.loops(), 0);

        AnswerFold y = with(0, 0, 0);
        choose(y, 0, 2, 0, 1);
        int c = choose(y, 0, 2, 0, 2);
        y.addAtom(c, true, 2, 0, 0);
        y.addAtom(c, true, 1, 0, 0);
        due("that choice is not kept", y.loops(), 0);
        choose(y, 0, 2, 1, 2);
        due("elements lead too", y.loops(), 1);
    }

    private static void loopsLimits() {
        AnswerFold x = with(2, 2);
        int c = x.addChoice(0, 0, 9, -1);
        x.addHead(c, 0, X, Y);
        int d = x.addDisjunction(0);
        x.addHead(d, 0, X, Y);
        x.addAtom(d, true, 0, 30, Y);
        int e = x.addDisjunction(0);
        x.addHead(e, 0, X, Y);
        x.addAtom(e, true, 0, 20, Y);
        due("64, 56 and 56 instances", x.instances(c) + x.instances(d) + x.instances(e), 176);
        due("a column each", x.loops(), 8);
        int f = x.addDisjunction(0);
        x.addHead(f, 0, X, Y);
        x.addAtom(f, true, 0, X, 31);
        due("all columns, one way", x.loops(), 8);
        int g = x.addDisjunction(0);
        x.addHead(g, 0, 0, Y);
        x.addAtom(g, true, 0, 7, 21);
        due("all in one", x.loops(), 1);
        fill(x, 300 - 176 - 56 - 7);
        due("300 instances", x.loops(), 1);
        fill(x, 1);
        refused("301 instances", UNSUPPORTED, () -> x.loops());
    }

    /** Adds so many instances of weak rules. */
    private static void fill(AnswerFold x, int instances) {
        int left = instances;
        while (left > 0) {
            int wide = 1;
            int high = 1;
            for (int size = 1; size <= 64; size++) {
                int a = size / 8 + 1;
                int b = size % 8 + 1;
                if (a <= 8 && a * b <= left && a * b > wide * high) {
                    wide = a;
                    high = b;
                }
            }
            int w = x.addWeak(0, 0, 1);
            x.addTest(w, '<', X, wide < 8 ? wide : 20);
            x.addTest(w, '<', Y, high < 8 ? high : 21);
            left -= wide * high;
        }
    }

    private static void walks() {
        AnswerFold x = with(0, 0);
        rule(x, 0, -2);
        rule(x, 1, -1);
        due("two", x.walk(), 2);
        due("again", x.walk(), 2);
        due("the first atom first", x.has(0, 0, 0, 0), true);
        due("then the other", x.has(1, 1, 0, 0), true);
        rule(x, 0, -1, 1);
        due("an atom that denies itself", x.walk(), 1);
        due("is left", x.has(0, 0, 0, 0), true);

        AnswerFold y = with(0);
        rule(y, 0, -1);
        due("no answer", y.walk(), 0);
        due("no answer by all", y.walkByAll(), 0);
    }

    private static void walkLimits() {
        AnswerFold x = chooser(6, 0, 9);
        due("64 answers", x.walk(), 64);
        due("the full one first", x.size(0), 12);
        due("the empty one last", x.size(63), 6);
        fact(x, 0, 6, 0);
        refused("128 answers", UNSUPPORTED, () -> x.walk());
        refused("nothing is kept", STATE, () -> x.best());
        due("by all", x.walkByAll(), 128);
        x.assume(1, 6, 0, true);
        due("64 that fit", x.walk(), 64);
        due("64 that fit by all", x.walkByAll(), 64);

        AnswerFold more = chooser(6, 0, 9);
        int extra = more.addChoice(0, 0, 1, -1);
        more.addHead(extra, 2, 0, 0);
        for (int v = 0; v < 6; v++) {
            int r = more.addDisjunction(0);
            more.addAtom(r, true, 2, 0, 0);
            more.addAtom(r, true, 1, v, 0);
        }
        refused("65 answers", UNSUPPORTED, () -> more.walk());
        due("65 by all", more.walkByAll(), 65);
        more.assume(1, 0, 0, false);
        more.assume(2, 0, 0, true);
        due("one of them", more.walk(), 1);

        AnswerFold wide = with(1, 1, 0);
        for (int v = 0; v < 6; v++) {
            int c = wide.addChoice(0, 1, 1, -1);
            wide.addHead(c, 0, v, 0);
            wide.addHead(c, 1, v, 0);
        }
        due("12 open atoms", wide.open(), 12);
        due("64 answers of them", wide.walk(), 64);
        refused("more than 7 open atoms", UNSUPPORTED, () -> wide.walkByAll());
        fill(wide, 294);
        due("300 instances", wide.walk(), 64);
        fill(wide, 1);
        refused("301 instances", UNSUPPORTED, () -> wide.walk());

        AnswerFold thirteen = with(1, 1, 0);
        for (int v = 0; v < 6; v++) {
            int c = thirteen.addChoice(0, 1, 1, -1);
            thirteen.addHead(c, 0, v, 0);
            thirteen.addHead(c, 1, v, 0);
        }
        choose(thirteen, 1, 1, 2);
        due("13 open atoms", thirteen.open(), 13);
        refused("too many", UNSUPPORTED, () -> thirteen.walk());
        for (int v = 0; v < 6; v++) {
            thirteen.assume(0, v, 0, true);
        }
        refused("assumptions do not help", UNSUPPORTED, () -> thirteen.walk());
    }

    private static void walkByAll() {
        AnswerFold x = chooser(7, 0, 1);
        refused("no walk is kept", STATE, () -> x.size(0));
        due("7 open atoms", x.walkByAll(), 8);
        refused("and none by it", STATE, () -> x.size(0));
        due("as many", x.walk(), 8);
        due("again", x.walkByAll(), 8);
        due("the walk stays", x.size(7), 7);
        int c = x.addChoice(0, 0, 1, -1);
        x.addHead(c, 2, 0, 0);
        due("8 open atoms", x.open(), 8);
        refused("too many", UNSUPPORTED, () -> x.walkByAll());

        AnswerFold y = with(0, 0);
        either(y, 0, 1);
        fill(y, 299);
        due("300 instances", y.walkByAll(), 2);
        fill(y, 1);
        refused("301 instances", UNSUPPORTED, () -> y.walkByAll());
    }

    private static void hasAndSize() {
        AnswerFold x = with(0, 0, 1);
        either(x, 0, 1);
        fact(x, 2, 7, 0);
        refused("no walk, no answer", STATE, () -> x.has(9, 9, 9, 9));
        refused("no walk", STATE, () -> x.size(-1));
        x.walk();
        refused("answer 2", INDEX, () -> x.has(2, 0, 0, 0));
        refused("answer -1", INDEX, () -> x.has(-1, 0, 0, 0));
        refused("answer 2 before the value", INDEX, () -> x.has(2, 2, 9, 0));
        refused("no predicate", INDEX, () -> x.has(0, 3, 0, 0));
        refused("no value", ARGUMENT, () -> x.has(0, 2, 8, 0));
        refused("size of answer 2", INDEX, () -> x.size(2));
        refused("size of answer -1", INDEX, () -> x.size(-1));
        due("size", x.size(1), 2);
        due("sure", x.has(1, 2, 7, 99), true);
        due("not possible", x.has(1, 2, 6, 0), false);
        due("not in the second", x.has(1, 0, 0, 0), false);
        due("in the second", x.has(1, 1, 5, 5), true);
    }

    private static void costsAndOrder() {
        AnswerFold x = chooser(3, 1, 1);
        refused("no walk", STATE, () -> x.cost(0, 9));
        due("in the order of atoms", x.walk(), 3);
        due("first", x.has(0, 1, 0, 0), true);
        due("last", x.has(2, 1, 2, 0), true);
        weak(x, 5, 1, 0);
        x.walk();
        due("the dearest one last", x.has(2, 1, 0, 0), true);
        due("its cost", x.cost(2, 1), 5L);
        due("others keep their order", x.has(0, 1, 1, 0), true);
        weak(x, 1, 2, 1);
        x.walk();
        due("the level 2 before the level 1", x.has(2, 1, 1, 0), true);
        due("the cheapest one", x.has(0, 1, 2, 0), true);
        weak(x, -1, 3, 1);
        x.walk();
        due("the level 3 before the level 2", x.has(0, 1, 1, 0), true);
        due("less than nothing", x.cost(0, 3), -1L);
        due("its other cost", x.cost(0, 2), 1L);
        refused("level 0", ARGUMENT, () -> x.cost(0, 0));
        refused("level 4", ARGUMENT, () -> x.cost(0, 4));
        refused("answer 3, level 4", INDEX, () -> x.cost(3, 4));

        AnswerFold each = chooser(3, 0, 3);
        int w = each.addWeak(0, -7, 2);
        each.addAtom(w, true, 1, X, 0);
        int v = each.addWeak(0, 10, 2);
        each.addAtom(v, false, 1, X, 0);
        each.addAtom(v, true, 0, X, 0);
        each.walk();
        due("each instance counts", each.cost(0, 2), -21L);
        due("also those of what is false", each.cost(7, 2), 30L);
        due("the fullest first", each.size(0), 6);
    }

    private static void weak(AnswerFold x, int weight, int level, int value) {
        int w = x.addWeak(0, weight, level);
        x.addAtom(w, true, 1, value, 0);
    }

    private static void bestAndProjected() {
        AnswerFold x = chooser(3, 1, 2);
        refused("best without a walk", STATE, () -> x.best());
        refused("projected without a walk", STATE, () -> x.projected(9));
        due("six", x.walk(), 6);
        due("all cost the same", x.best(), 6);
        due("six sets", x.projected(1), 6);
        due("one set", x.projected(0), 1);
        due("one empty set", x.projected(2), 1);
        refused("no predicate", INDEX, () -> x.projected(3));
        refused("predicate -1", INDEX, () -> x.projected(-1));
        weak(x, 1, 1, 0);
        x.walk();
        due("three without the atom 0", x.best(), 3);
        weak(x, 1, 3, 1);
        x.walk();
        due("of them the one with the atom 2 alone", x.best(), 1);
        int r = x.addDisjunction(0);
        x.addHead(r, 2, 0, 0);
        x.addAtom(r, true, 1, 0, 0);
        x.walk();
        due("two sets", x.projected(2), 2);
    }

    private static void holdsAndShare() {
        AnswerFold x = chooser(3, 1, 1);
        refused("holds without a walk", STATE, () -> x.holds(9, 0, 0));
        refused("share without a walk", STATE, () -> x.share(9, 0, 0));
        x.walk();
        due("all", x.holds(0, 2, 0), 'a');
        due("some", x.holds(1, 2, 0), 's');
        due("none", x.holds(2, 2, 0), 'n');
        refused("no predicate", INDEX, () -> x.holds(3, 0, 0));
        refused("no value", ARGUMENT, () -> x.holds(1, 8, 0));
        due("share of all", x.share(0, 0, 0), 1f);
        due("share of one of three", x.share(1, 2, 0), 1f / 3f);
        due("share of none", x.share(1, 7, 0), 0f);
        refused("no predicate", INDEX, () -> x.share(-1, 0, 0));
        refused("no value", ARGUMENT, () -> x.share(1, -1, 0));
    }

    private static void reasons() {
        AnswerFold x = with(0, 0, 0, 0);
        int two = either(x, 0, 1);
        int third = rule(x, 2, 0);
        int choice = choose(x, 0, 2, 2, 3);
        refused("no walk", STATE, () -> x.reason(9, 9, 9, 9));
        x.assume(0, 0, 0, true);
        x.walk();
        due("the only head", x.reason(0, 0, 0, 0), two);
        due("the lowest rule", x.reason(0, 2, 0, 0), third);
        due("an element", x.reason(0, 3, 0, 0), choice);
        refused("not in it", NO_ELEMENT, () -> x.reason(0, 1, 0, 0));
        refused("no answer", INDEX, () -> x.reason(4, 1, 0, 0));
        refused("no predicate", INDEX, () -> x.reason(0, 4, 0, 0));

        AnswerFold loop = with(0, 0);
        either(loop, 0, 1);
        rule(loop, 0, 1);
        rule(loop, 1, 0);
        loop.walk();
        due("both heads are in it", loop.reason(0, 0, 0, 0), 1);
        due("both heads are in it", loop.reason(0, 1, 0, 0), 2);

        AnswerFold y = with(0, 1, 0);
        rule(y, 2, 0);
        y.addExternal(2, 0, 0);
        y.addExternal(0, 0, 0);
        y.addExternal(1, 3, 0);
        y.setExternal(0, 't');
        y.setExternal(1, 'u');
        y.setExternal(2, 't');
        y.walk();
        due("a free external", y.reason(0, 0, 0, 0), 101);
        due("a true one", y.reason(0, 1, 3, 9), 102);
        due("a rule before an external", y.reason(0, 2, 0, 0), 0);
        due("without the rule the external", y.reason(1, 2, 0, 0), 100);
        refused("no value", ARGUMENT, () -> y.reason(0, 1, 8, 0));
        refused("not possible", NO_ELEMENT, () -> y.reason(0, 1, 4, 0));

        AnswerFold same = with(1);
        int d = same.addDisjunction(0);
        same.addHead(d, 0, X, 0);
        same.addHead(d, 0, Y, 0);
        same.addTest(d, '=', X, Y);
        same.addTest(d, '<', X, 2);
        due("twice the same head is not sure", same.state(0, 1, 0), 'o');
        due("one answer", sizes(same), "2 ");
        due("it is the only head in it", same.reason(0, 0, 1, 0), d);
    }

    private static void commonest() {
        AnswerFold x = with(2, 0, 1);
        refused("no walk", STATE, () -> x.commonest());
        x.walk();
        refused("no open atom", NO_ELEMENT, () -> x.commonest());
        int c = x.addChoice(0, 1, 1, -1);
        x.addHead(c, 0, 3, 5);
        x.addHead(c, 0, 5, 3);
        x.walk();
        due("of several the first one", x.commonest(), 35);
        int r = x.addDisjunction(0);
        x.addHead(r, 2, 6, 0);
        x.addAtom(r, false, 1, 0, 0);
        x.walk();
        due("in all, but open", x.commonest(), 260);
        fact(x, 2, 6, 0);
        x.walk();
        due("sure atoms are not open", x.commonest(), 35);
        rule(x, -1);
        x.walk();
        refused("no answer", NO_ELEMENT, () -> x.commonest());

        AnswerFold y = with(0);
        choose(y, 0, 0, 0);
        y.walk();
        due("open, in none", y.commonest(), 0);
    }

    private static void meanSize() {
        AnswerFold x = chooser(2, 0, 2);
        refused("no walk", STATE, () -> x.meanSize());
        due("four", x.walk(), 4);
        due("mean", x.meanSize(), 3.0);
        AnswerFold z = with(0, 0, 0);
        choose(z, 1, 2, 0, 1);
        z.walk();
        due("a third more than one", z.meanSize(), 4.0 / 3.0);
    }

    private static void noAnswers() {
        AnswerFold x = with(0, 0);
        either(x, 0, 1);
        rule(x, -1);
        due("none", x.walk(), 0);
        due("best", x.best(), 0);
        due("projected", x.projected(0), 0);
        due("holds", x.holds(0, 0, 0), 'a');
        refused("has", INDEX, () -> x.has(0, 0, 0, 0));
        refused("size", INDEX, () -> x.size(0));
        refused("cost", INDEX, () -> x.cost(0, 1));
        refused("reason", INDEX, () -> x.reason(0, 0, 0, 0));
        refused("share", ARITHMETIC, () -> x.share(0, 0, 0));
        refused("share, no predicate", INDEX, () -> x.share(7, 0, 0));
        refused("mean", ARITHMETIC, () -> x.meanSize());
        refused("commonest", NO_ELEMENT, () -> x.commonest());
    }

    private static void whatDropsTheWalk() {
        AnswerFold x = with(0, 1);
        x.addDisjunction(1);
        x.addExternal(0, 0, 0);
        Call[] calls = {
            () -> x.addPredicate(0), () -> x.addDisjunction(1), () -> x.addChoice(1, 0, 1, -1),
            () -> x.addWeak(1, 1, 1), () -> x.addHead(0, 0, 0, 0), () -> x.addAtom(0, true, 0, 0, 0),
            () -> x.addTest(0, '<', 0, 1), () -> x.addCount(0, 'g', 0, 1), () -> x.ground(2, 2),
            () -> x.addExternal(1, 1, 0), () -> x.setExternal(0, 'f'), () -> x.assume(0, 0, 0, false),
            () -> x.assume(0, 0, 0, false), () -> x.dropAssumptions(), () -> x.dropAssumptions()};
        for (int i = 0; i < calls.length; i++) {
            x.walk();
            due("kept before call " + i, x.best(), 1);
            calls[i].answer();
            refused("dropped by call " + i, STATE, () -> x.best());
        }
        x.walk();
        x.walkByAll();
        x.state(0, 0, 0);
        x.open();
        x.instances(0);
        x.loops();
        due("kept by what only looks", x.best(), 1);
    }

    private static void throwsChangeNothing() {
        AnswerFold x = chooser(2, 1, 1);
        x.addExternal(2, 0, 0);
        x.assume(1, 0, 0, true);
        due("one", x.walk(), 1);
        Call[] calls = {
            () -> x.addPredicate(3), () -> x.addDisjunction(4), () -> x.addChoice(0, 2, 1, -1),
            () -> x.addWeak(0, 100, 1), () -> x.addHead(0, 0, 8, 0), () -> x.addHead(99, 0, 0, 0),
            () -> x.addAtom(0, true, 0, 8, 0), () -> x.addTest(0, '?', 0, 1), () -> x.addCount(0, 'g', 0, 21),
            () -> x.ground(0, 0), () -> x.addExternal(2, 0, 0), () -> x.addExternal(2, 9, 0),
            () -> x.setExternal(0, 'y'), () -> x.setExternal(1, 't'), () -> x.assume(1, 8, 0, false),
            () -> x.assume(9, 0, 0, false), () -> x.state(9, 0, 0), () -> x.instances(77), () -> x.size(5)};
        for (int i = 0; i < calls.length; i++) {
            checks++;
            try {
                calls[i].answer();
                wrong++;
                System.out.println("call " + i + " is not refused");
            } catch (RuntimeException e) {
                due("still kept after call " + i, x.best(), 1);
                due("still there", x.has(0, 1, 0, 0), true);
            }
        }
        due("as many rules", x.addDisjunction(0), 3);
        due("as many predicates", x.addPredicate(0), 3);
        due("as many externals", x.addExternal(2, 1, 0), 1);
        due("as many assumptions", x.dropAssumptions(), 1);
    }

    private static void leastSets() {
        AnswerFold x = with(0, 0, 0);
        either(x, 0, 1);
        either(x, 1, 2);
        either(x, 0, 2);
        due("two of three, three times", x.walk(), 3);
        due("by all", x.walkByAll(), 3);
        due("two each", sizes(x), "2 2 2 ");
        rule(x, 2, 0, 1);
        due("not without the third", sizes(x), "2 2 ");

        AnswerFold free = with(0, 0);
        free.addExternal(0, 0, 0);
        free.setExternal(0, 'u');
        either(free, 0, 1);
        due("free or the other", sizes(free), "1 1 ");
        due("by all", free.walkByAll(), 2);

        AnswerFold picked = with(0, 0, 0);
        choose(picked, 0, 1, 0);
        either(picked, 0, 1);
        due("what is chosen stays", sizes(picked), "1 1 ");

        AnswerFold held = with(0, 0);
        int c = held.addChoice(0, 0, 1, -1);
        held.addHead(c, 0, 0, 0);
        held.addAtom(c, true, 1, 0, 0);
        rule(held, 1, 0);
        due("no choice holds itself up", held.state(0, 0, 0), 'n');
        choose(held, 0, 1, 1);
        due("with a ground", sizes(held), "2 1 0 ");
    }
}
