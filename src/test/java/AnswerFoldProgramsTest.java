import java.io.IOException;

/** Promises 1 to 10: programs. */
public final class AnswerFoldProgramsTest extends SentenceTest {
    private static final int FULL = 20;

    public static void main(String[] args) throws IOException {
        read(1, 10);
        newObject();
        addPredicate();
        addDisjunction();
        addChoice();
        boundsOfChoices();
        addWeak();
        addHead();
        addAtom();
        addTest();
        addCount();
        ground();
        finish();
    }

    private static void newObject() {
        holds(1, "Creates a program without predicates and rules.", () -> {
            AnswerFold x = new AnswerFold();
            refusedEach("no predicate", INDEX, p -> x.state(p, 0, 0), MIN, -1, 0, MAX);
            refusedEach("no rule", INDEX, r -> x.instances(r), MIN, -1, 0, MAX);
            refusedEach("no external", INDEX, e -> x.setExternal(e, 't'), MIN, -1, 0, MAX);
            refusedEach("no span", ARGUMENT, s -> x.addChoice(0, 0, 1, s), MIN, 0, MAX);
            refused("no walk", STATE, () -> x.best());
            due("nothing assumed", x.dropAssumptions(), 0);
            due("nothing open", x.open(), 0);
            due("no loop", x.loops(), 0);
            due("one answer", x.walk(), 1);
            due("one answer by all", x.walkByAll(), 1);
            due("without atoms", x.size(0), 0);
            due("that costs nothing", x.cost(0, 1) + x.cost(0, 2) + x.cost(0, 3), 0L);
            due("the best one", x.best(), 1);
            due("no atoms on the mean", x.meanSize(), 0.0);
            refused("no open atom", NO_ELEMENT, () -> x.commonest());
            refused("no predicate", INDEX, () -> x.projected(0));
            due("never grounded", x.ground(1, 0), 1);
            due("the first predicate", x.addPredicate(1), 0);
            due("the first rule", x.addDisjunction(0), 0);
            due("the first external", x.addExternal(0, 0, 0), 0);
        });
        holds(1, "Creates a program", () -> {
            AnswerFold x = with(0);
            rule(x, 0);
            AnswerFold y = new AnswerFold();
            refused("nothing of another object", INDEX, () -> y.state(0, 0, 0));
            due("is in it", y.walk(), 1);
            due("is in it", y.size(0), 0);
        });
    }

    private static void addPredicate() {
        holds(2, "Adds a predicate.", () -> {
            AnswerFold x = new AnswerFold();
            for (int places = 0; places <= 2; places++) {
                int p = places;
                refused("not there", INDEX, () -> x.state(p, 0, 0));
                x.addPredicate(places);
                due("there", x.state(p, 0, 0), 'n');
            }
            due("no place", x.state(0, MIN, MAX), 'n');
            due("one place", x.state(1, 7, MAX), 'n');
            refused("one place", ARGUMENT, () -> x.state(1, 8, 0));
            refused("two places", ARGUMENT, () -> x.state(2, 7, 8));
            refused("no fourth predicate", INDEX, () -> x.state(3, 0, 0));
        });
        holds(2, "`places`: the number of its places, 0 to 2", () ->
            takenEach("places", n -> new AnswerFold().addPredicate(n), 0, 1, 2));
        holds(2, "Returns the number of the predicate.", () -> {
            AnswerFold x = new AnswerFold();
            for (int i = 0; i < 6; i++) {
                refused("a number is not used up", ARGUMENT, () -> x.addPredicate(3));
                due("number", x.addPredicate((5 - i) % 3), i);
            }
        });
        holds(2, "Throws `IllegalArgumentException` if the number is out of range", () -> {
            refusedEach("places", ARGUMENT, n -> new AnswerFold().addPredicate(n), MIN, -256, -1, 3, 256, MAX);
            AnswerFold full = with(0, 0, 0, 0, 0, 0);
            refusedEach("places, 6 predicates", ARGUMENT, n -> full.addPredicate(n), -1, 3);
        });
        holds(2, "Throws `IllegalStateException` if there are 6 predicates", () -> {
            AnswerFold x = with(0, 1, 2, 0, 1);
            due("the sixth", x.addPredicate(2), 5);
            refusedEach("the seventh with places", STATE, n -> x.addPredicate(n), 0, 1, 2);
            due("the sixth is there", x.state(5, 7, 7), 'n');
            refused("the seventh is not", INDEX, () -> x.state(6, 0, 0));
        });
    }

    /** So many rules, of all kinds, in a part that is not grounded. */
    private static AnswerFold withRules(int rules) {
        AnswerFold x = with(1);
        for (int i = 0; i < rules; i++) {
            if (i % 3 == 0) {
                x.addDisjunction(3);
            } else if (i % 3 == 1) {
                x.addChoice(3, 0, 1, 0);
            } else {
                x.addWeak(3, 1, 1);
            }
        }
        return x;
    }

    private static void addDisjunction() {
        holds(3, "Adds a disjunction without heads and conditions.", () -> {
            AnswerFold x = with(0);
            due("before", x.walk(), 1);
            int d = x.addDisjunction(0);
            due("its body holds, and no head can be in it", x.walk(), 0);
            due("one instance", x.instances(d), 1);
            due("no head is there", x.addHead(d, 0, 0, 0), 1);
            due("no condition is there", x.addAtom(d, false, 0, 0, 0), 1);
        });
        holds(3, "`part`: its part, 0 to 3", () -> {
            AnswerFold x = with(1);
            for (int part = 0; part <= 3; part++) {
                x.addHead(x.addDisjunction(part), 0, part, 0);
            }
            due("the part 0", answers(x, 1), "00");
            x.ground(3, 1);
            due("the part 3", answers(x, 1), "00 03");
            x.ground(1, 1);
            due("the part 1", answers(x, 1), "00 01 03");
            x.ground(2, 1);
            due("the part 2", answers(x, 1), "00 01 02 03");
        });
        holds(3, "Returns the number of the rule.", () -> {
            for (int rules = 0; rules < FULL; rules++) {
                AnswerFold x = withRules(rules);
                refused("a number is not used up", ARGUMENT, () -> x.addDisjunction(4));
                due("number", x.addDisjunction(0), rules);
            }
        });
        holds(3, "Throws `IllegalArgumentException` if there is no such part", () -> {
            refusedEach("part", ARGUMENT, p -> withRules(1).addDisjunction(p), MIN, -1, 4, MAX);
            refusedEach("part, 20 rules", ARGUMENT, p -> withRules(FULL).addDisjunction(p), -1, 4);
        });
        holds(3, "Throws `IllegalStateException` if there are 20 rules", () -> {
            due("rule 19", withRules(19).addDisjunction(0), 19);
            AnswerFold x = withRules(FULL);
            refusedEach("rule 20 of the part", STATE, p -> x.addDisjunction(p), 0, 1, 2, 3);
            due("nothing forbids", x.walk(), 1);
            refused("no rule 20", INDEX, () -> x.instances(20));
        });
    }

    private static void addChoice() {
        holds(4, "Adds a choice without heads and conditions.", () -> {
            AnswerFold x = with(1, 0);
            int c = x.addChoice(0, 0, 0, -1);
            due("none of none", x.walk(), 1);
            due("one instance", x.instances(c), 1);
            due("no head is there", x.addHead(c, 1, 0, 0), 1);
            due("no condition is there", x.addAtom(c, false, 1, 0, 0), 1);
            AnswerFold y = with(1);
            y.addChoice(0, 1, 1, -1);
            due("one of none", y.walk(), 0);
        });
        holds(4, "`part`: its part, 0 to 3", () -> {
            for (int part = 0; part <= 3; part++) {
                AnswerFold x = with(1);
                int c = x.addChoice(part, 1, 1, -1);
                x.addHead(c, 0, part, 0);
                due("grounded from the beginning", x.instances(c), part == 0 ? 1 : 0);
                for (int p = 1; p <= 3; p++) {
                    x.ground(p, 0);
                    due("grounded part " + p, answers(x, 1), part <= p ? "0" + part : "-");
                }
            }
        });
        holds(4, "Returns the number of the rule.", () -> {
            for (int rules = 0; rules < FULL; rules++) {
                AnswerFold x = withRules(rules);
                refused("a number is not used up", ARGUMENT, () -> x.addChoice(0, 1, 0, -1));
                due("number", x.addChoice(0, 0, 0, -1), rules);
            }
        });
        holds(4, "Throws `IllegalArgumentException` if there is no such part, a bound is out of range", () -> {
            AnswerFold full = withRules(FULL);
            for (AnswerFold x : new AnswerFold[] {withRules(1), full}) {
                refusedEach("part", ARGUMENT, p -> x.addChoice(p, 0, 1, -1), MIN, -1, 4, MAX);
                refusedEach("lower bound", ARGUMENT, n -> x.addChoice(0, n, 9, -1), MIN, -1, 10, MAX);
                refusedEach("upper bound", ARGUMENT, n -> x.addChoice(0, 1, n, -1), MIN, -1, 0, 10, MAX);
                refusedEach("span", ARGUMENT, s -> x.addChoice(0, 0, 1, s), MIN, -2, 1, 5, 6, MAX);
            }
        });
        holds(4, "or there is no such predicate with one place", () -> {
            AnswerFold x = with(0, 1, 2, 1);
            refusedEach("span", ARGUMENT, s -> x.addChoice(0, 0, 1, s), 0, 2, 4);
            takenEach("span", s -> x.addChoice(0, 0, 1, s), -1, 1, 3);
            x.addPredicate(1);
            takenEach("a new one", s -> x.addChoice(0, 0, 1, s), 4);
        });
        holds(4, "Throws `IllegalStateException` if there are 20 rules", () -> {
            due("rule 19", withRules(19).addChoice(0, 0, 1, -1), 19);
            AnswerFold x = withRules(FULL);
            refused("rule 20", STATE, () -> x.addChoice(0, 1, 1, -1));
            refused("rule 20 with a span", STATE, () -> x.addChoice(1, 0, 1, 0));
            due("nothing forbids", x.walk(), 1);
            refused("no rule 20", INDEX, () -> x.instances(20));
        });
    }

    private static void boundsOfChoices() {
        holds(4, "`lower`: the lower bound, 0 to 9", () -> {
            due("0 of 3", chooser(3, 0, 9).walk(), 8);
            due("1 of 3", chooser(3, 1, 9).walk(), 7);
            due("3 of 3", chooser(3, 3, 9).walk(), 1);
            due("4 of 3", chooser(3, 4, 9).walk(), 0);
            due("9 of 8", chooser(8, 9, 9).walk(), 0);
            due("9 of 9", nineElements(9, 9).walk(), 1);
            due("8 of 9", nineElements(8, 8).walk(), 9);
        });
        holds(4, "`upper`: the upper bound, not less than the lower one, up to 9", () -> {
            due("0 of 3", chooser(3, 0, 0).walk(), 1);
            due("1 of 3", chooser(3, 0, 1).walk(), 4);
            due("2 of 3", chooser(3, 0, 2).walk(), 7);
            due("as many as the lower bound tells", chooser(3, 2, 2).walk(), 3);
            due("up to 8 of 9", nineElements(7, 8).walk(), 36 + 9);
            due("up to 9 of 9", nineElements(8, 9).walk(), 10);
            for (int lower = 1; lower <= 9; lower++) {
                int n = lower;
                refused("less than " + n, ARGUMENT, () -> with(0).addChoice(0, n, n - 1, -1));
                due("as many as " + n, with(0).addChoice(0, n, n, -1), 0);
            }
        });
        holds(4, "`span`: the predicate of the span, or -1 for none", () -> {
            AnswerFold x = with(1, 1);
            fact(x, 1, 2, 0);
            fact(x, 0, 3, 0);
            int c = x.addChoice(0, 0, 9, 1);
            x.addHead(c, 0, 22, 0);
            due("the atom of its span is sure already", x.state(0, 3, 0), 's');
            due("no other element", x.open(), 0);
            fact(x, 1, 4, 0);
            due("one more", x.state(0, 5, 0), 'o');
            due("and none of another predicate", x.state(0, 4, 0), 'n');
            AnswerFold y = with(1);
            int d = y.addChoice(0, 0, 9, -1);
            y.addHead(d, 0, 22, 0);
            due("without a span, an instance for each value", y.instances(d), 8);
            due("seven elements", y.open(), 7);
        });
    }

    /** A choice with nine elements: eight of a span and one more. */
    private static AnswerFold nineElements(int lower, int upper) {
        AnswerFold x = with(1, 1, 0);
        x.addHead(x.addDisjunction(0), 0, X, 0);
        int c = x.addChoice(0, lower, upper, 0);
        x.addHead(c, 1, Z, 0);
        x.addHead(c, 2, 0, 0);
        return x;
    }

    private static void addWeak() {
        holds(5, "Adds a weak rule without conditions.", () -> {
            AnswerFold x = with(0);
            int w = x.addWeak(0, 4, 2);
            x.walk();
            due("its body holds", x.cost(0, 2), 4L);
            due("one instance", x.instances(w), 1);
            due("no condition is there", x.addAtom(w, true, 0, 0, 0), 1);
            x.walk();
            due("its body does not hold", x.cost(0, 2), 0L);
            refused("no head", STATE, () -> x.addHead(w, 0, 0, 0));
            due("it forbids nothing and gives nothing", answers(x, 0), "-");
        });
        holds(5, "`part`: its part, 0 to 3", () -> {
            for (int part = 0; part <= 3; part++) {
                AnswerFold x = with(1);
                x.addWeak(part, 1, 1);
                for (int p = 1; p <= 3; p++) {
                    x.ground(p, 7);
                    x.walk();
                    due("grounded part " + p, x.cost(0, 1), part <= p ? 1L : 0L);
                }
            }
        });
        holds(5, "`weight`: the weight, -99 to 99", () -> {
            for (int weight : new int[] {-99, -1, 0, 1, 99}) {
                AnswerFold x = with(0);
                x.addWeak(0, weight, 3);
                x.walk();
                due("cost", x.cost(0, 3), (long) weight);
            }
            AnswerFold y = chooser(2, 1, 1);
            weak(y, -99, 1, 1);
            due("the least cost first", answers(y, -1, 1), "11 | 10");
        });
        holds(5, "`level`: the level, 1 to 3", () -> {
            AnswerFold x = with(0);
            for (int level = 1; level <= 3; level++) {
                x.addWeak(0, 10 * level, level);
            }
            x.walk();
            for (int level = 1; level <= 3; level++) {
                due("cost at the level", x.cost(0, level), 10L * level);
            }
        });
        holds(5, "Returns the number of the rule.", () -> {
            for (int rules = 0; rules < FULL; rules++) {
                AnswerFold x = withRules(rules);
                refused("a number is not used up", ARGUMENT, () -> x.addWeak(0, 0, 0));
                due("number", x.addWeak(0, 0, 1), rules);
            }
        });
        holds(5, "Throws `IllegalArgumentException` if there is no such part, or a number is out of range", () -> {
            for (AnswerFold x : new AnswerFold[] {withRules(1), withRules(FULL)}) {
                refusedEach("part", ARGUMENT, p -> x.addWeak(p, 0, 1), MIN, -1, 4, MAX);
                refusedEach("weight", ARGUMENT, w -> x.addWeak(0, w, 1), MIN, -100, 100, MAX);
                refusedEach("level", ARGUMENT, l -> x.addWeak(0, 0, l), MIN, -1, 0, 4, MAX);
            }
        });
        holds(5, "Throws `IllegalStateException` if there are 20 rules", () -> {
            due("rule 19", withRules(19).addWeak(0, 0, 1), 19);
            AnswerFold x = withRules(FULL);
            refused("rule 20", STATE, () -> x.addWeak(0, 1, 1));
            x.walk();
            due("it costs nothing", x.cost(0, 1), 0L);
            refused("no rule 20", INDEX, () -> x.instances(20));
        });
    }

    private static void addHead() {
        holds(6, "Adds a head to a rule.", () -> {
            AnswerFold x = with(0, 0);
            int d = x.addDisjunction(0);
            int e = x.addDisjunction(1);
            x.addHead(d, 0, 0, 0);
            due("one head", answers(x, 0, 0), "0");
            x.addHead(d, 1, 0, 0);
            due("two heads", answers(x, 0, 0), "0 | 1");
            due("the other rule has none", x.addHead(e, 0, 0, 0), 1);
            AnswerFold y = with(1);
            int c = y.addChoice(0, 1, 2, -1);
            y.addHead(c, 0, 5, 0);
            y.addHead(c, 0, 3, 0);
            due("two elements", answers(y, 1), "03 05 | 03 | 05");
        });
        holds(6, "`rule`: the number of the rule", () -> {
            AnswerFold x = withRules(19);
            int last = x.addDisjunction(0);
            due("the last rule", x.addHead(last, 0, 1, 0), 1);
            due("the first one", x.addHead(0, 0, 2, 0), 1);
            x.ground(3, 0);
            due("its head too", x.state(0, 2, 0), 's');
            due("the last one's head", x.state(0, 1, 0), 's');
        });
        holds(6, "`predicate`: the predicate", () -> {
            AnswerFold x = with(0, 0, 0, 0, 0, 0);
            for (int p = 0; p < 6; p++) {
                rule(x, p);
                due("sure", x.state(p, 0, 0), 's');
                due("so many", x.walk() * x.size(0), p + 1);
            }
        });
        holds(6, "`first`: the term for its first place", () -> {
            int[] terms = {0, 7, 10, 11, 12, 20, 22, 30, 32, 40, 50};
            String[] values = {"0", "7", "01234567", "01234567", "01234567", "1234567", "1234567", "0123456", "0123456",
                "3", "2"};
            for (int i = 0; i < terms.length; i++) {
                due("first term " + terms[i], headValues(terms[i], true), values[i]);
            }
        });
        holds(6, "`second`: the term for its second place", () -> {
            int[] terms = {0, 7, 10, 12, 20, 21, 30, 31, 40, 50};
            String[] values = {"0", "7", "01234567", "01234567", "1234567", "1234567", "0123456", "0123456", "3", "2"};
            for (int i = 0; i < terms.length; i++) {
                due("second term " + terms[i], headValues(terms[i], false), values[i]);
            }
        });
        holds(6, "Returns the number of heads.", () -> {
            AnswerFold x = with(1);
            for (int r : new int[] {x.addDisjunction(0), x.addChoice(0, 0, 1, -1), x.addChoice(0, 0, 1, 0)}) {
                due("one", x.addHead(r, 0, 0, 0), 1);
                refused("a refused one does not count", ARGUMENT, () -> x.addHead(r, 0, 8, 0));
                due("two, also of the same", x.addHead(r, 0, 0, 0), 2);
            }
        });
        holds(6, "Throws `IndexOutOfBoundsException` if there is no such rule or predicate", () -> {
            AnswerFold x = with(1);
            int w = x.addWeak(0, 1, 1);
            refusedEach("rule", INDEX, r -> x.addHead(r, 0, 0, 0), MIN, -1, 1, 20, MAX);
            refusedEach("predicate", INDEX, p -> x.addHead(w, p, 0, 0), MIN, -1, 1, 6, MAX);
            refusedEach("rule, no term", INDEX, r -> x.addHead(r, 0, 8, 0), -1, 1);
            refusedEach("predicate, no term", INDEX, p -> x.addHead(w, p, 8, 8), -1, 1);
        });
        holds(6, "Throws `IllegalArgumentException` if there is no such term, for a place that the predicate has", () -> {
            AnswerFold x = with(0, 1, 2);
            int w = x.addWeak(0, 1, 1);
            for (int r : new int[] {x.addDisjunction(0), w}) {
                refusedEach("first term", ARGUMENT, t -> x.addHead(r, 1, t, 0), NO_TERMS);
                refusedEach("first term of two", ARGUMENT, t -> x.addHead(r, 2, t, 0), NO_TERMS);
                refusedEach("second term", ARGUMENT, t -> x.addHead(r, 2, 0, t), NO_TERMS);
            }
            int d = x.addDisjunction(0);
            due("no place", x.addHead(d, 0, MAX, MIN), 1);
            due("no second place", x.addHead(d, 1, 7, MIN), 2);
        });
        holds(6, "Throws `IllegalStateException` if it is a weak rule, or has 2 heads", () -> {
            AnswerFold x = with(0);
            int w = x.addWeak(0, 1, 1);
            refused("a weak rule", STATE, () -> x.addHead(w, 0, 0, 0));
            for (int r : new int[] {x.addDisjunction(0), x.addChoice(0, 0, 1, -1)}) {
                x.addHead(r, 0, 0, 0);
                x.addHead(r, 0, 0, 0);
                refused("a third head", STATE, () -> x.addHead(r, 0, 0, 0));
                refused("once more", STATE, () -> x.addHead(r, 0, 0, 0));
            }
        });
    }

    /** The values for which heads with a term are sure, in a part that is grounded with 3. */
    private static String headValues(int term, boolean isFirst) {
        AnswerFold x = with(2);
        int d = x.addDisjunction(1);
        x.addHead(d, 0, isFirst ? term : 6, isFirst ? 6 : term);
        x.ground(1, 3);
        StringBuilder all = new StringBuilder();
        for (int v = 0; v < 8; v++) {
            all.append(x.state(0, isFirst ? v : 6, isFirst ? 6 : v) == 's' ? "" + v : "");
        }
        return all.toString();
    }

    private static void addAtom() {
        holds(7, "Adds an atom to the body of a rule.", () -> {
            AnswerFold x = with(0, 0, 0);
            choose(x, 0, 2, 0, 1);
            int d = rule(x, 2);
            due("without it", x.state(2, 0, 0), 's');
            x.addAtom(d, true, 0, 0, 0);
            due("with it", answers(x, 0, 0, 0), "0 1 2 | 0 2 | 1 | -");
            x.addAtom(d, true, 1, 0, 0);
            due("with both", answers(x, 0, 0, 0), "0 1 2 | 0 | 1 | -");
        });
        holds(7, "`rule`: the number of the rule", () -> {
            AnswerFold x = withRules(19);
            int last = x.addDisjunction(0);
            due("the last rule", x.addAtom(last, true, 0, 1, 0), 1);
            due("the first one", x.addAtom(0, true, 0, 1, 0), 1);
            due("the last one holds no more", x.walk(), 1);
        });
        holds(7, "`isTrue`: whether it is to be true, not false", () -> {
            AnswerFold x = with(0, 0, 0);
            choose(x, 0, 1, 0);
            x.addAtom(rule(x, 1), true, 0, 0, 0);
            x.addAtom(rule(x, 2), false, 0, 0, 0);
            due("true and false", answers(x, 0, 0, 0), "0 1 | 2");
        });
        holds(7, "`predicate`: the predicate", () -> {
            for (int p = 1; p < 6; p++) {
                AnswerFold x = with(0, 0, 0, 0, 0, 0);
                rule(x, p);
                for (int q = 1; q < 6; q++) {
                    int w = x.addWeak(0, 1, 1);
                    x.addAtom(w, true, q, 0, 0);
                    due("holds", x.instances(w), p == q ? 1 : 0);
                }
            }
        });
        holds(7, "`first`: the term for its first place", () -> termsInBodies(true));
        holds(7, "`second`: the term for its second place", () -> termsInBodies(false));
        holds(7, "Returns the number of conditions.", () -> {
            AnswerFold x = with(1);
            for (int r : new int[] {x.addDisjunction(0), x.addChoice(0, 0, 1, 0), x.addWeak(0, 1, 1)}) {
                due("one", x.addAtom(r, true, 0, 0, 0), 1);
                due("two, also of the same", x.addAtom(r, true, 0, 0, 0), 2);
                refused("a refused one does not count", ARGUMENT, () -> x.addAtom(r, true, 0, 8, 0));
                x.addTest(r, '<', 0, 0);
                due("four", x.addAtom(r, false, 0, 0, 0), 4);
                due("five", x.addAtom(r, false, 0, 0, 0), 5);
            }
        });
        holds(7, "Throws `IndexOutOfBoundsException` if there is no such rule or predicate", () -> {
            AnswerFold x = with(1);
            int r = fullBody(x);
            refusedEach("rule", INDEX, n -> x.addAtom(n, true, 0, 0, 0), MIN, -1, 1, 20, MAX);
            refusedEach("predicate", INDEX, p -> x.addAtom(r, true, p, 0, 0), MIN, -1, 1, 6, MAX);
            refusedEach("rule, no term", INDEX, n -> x.addAtom(n, true, 0, 8, 0), -1, 1);
            refusedEach("predicate, no term", INDEX, p -> x.addAtom(r, false, p, 8, 8), -1, 1);
        });
        holds(7, "Throws `IllegalArgumentException` if there is no such term", () -> {
            AnswerFold x = with(0, 1, 2);
            for (int r : new int[] {x.addDisjunction(0), fullBody(x)}) {
                refusedEach("first term", ARGUMENT, t -> x.addAtom(r, true, 1, t, 0), NO_TERMS);
                refusedEach("first term of two", ARGUMENT, t -> x.addAtom(r, false, 2, t, 0), NO_TERMS);
                refusedEach("second term", ARGUMENT, t -> x.addAtom(r, true, 2, 0, t), NO_TERMS);
            }
            due("no place", x.addAtom(0, true, 0, MAX, MIN), 1);
            due("no second place", x.addAtom(0, true, 1, 7, MIN), 2);
        });
        holds(7, "or it has the variable 2 in a choice with a span", () -> {
            AnswerFold x = with(0, 1, 2);
            int span = x.addChoice(0, 0, 9, 1);
            refusedEach("first term", ARGUMENT, t -> x.addAtom(span, true, 1, t, 0), 12, 22, 32);
            refusedEach("second term", ARGUMENT, t -> x.addAtom(span, false, 2, 0, t), 12, 22, 32);
            takenEach("other variables", t -> x.addAtom(span, true, 2, t, t), 10, 21, 30);
            due("a place that it does not have", x.addAtom(span, true, 0, Z, Z), 4);
            due("a place that it does not have", x.addAtom(span, true, 1, 0, Z), 5);
            refused("before 5 conditions", ARGUMENT, () -> x.addAtom(span, true, 1, Z, 0));
            for (int r : new int[] {x.addChoice(0, 0, 9, -1), x.addDisjunction(0), x.addWeak(0, 1, 1)}) {
                takenEach("other rules", t -> x.addAtom(r, true, 2, t, t), 12, 22, 32);
            }
        });
        holds(7, "Throws `IllegalStateException` if there are 5 conditions", () -> {
            AnswerFold x = with(1);
            int r = x.addDisjunction(0);
            for (int i = 1; i <= 5; i++) {
                due("condition", x.addAtom(r, true, 0, 0, 0), i);
            }
            refused("a sixth", STATE, () -> x.addAtom(r, true, 0, 0, 0));
            refused("a sixth among others", STATE, () -> x.addAtom(fullBody(x), false, 0, 0, 0));
        });
    }

    /** A rule with five conditions, not all of them atoms. */
    private static int fullBody(AnswerFold x) {
        int r = x.addDisjunction(1);
        x.addTest(r, '<', 0, 1);
        x.addCount(r, 'g', 0, 1);
        x.addAtom(r, true, 0, 1, 0);
        x.addTest(r, '=', 0, 1);
        x.addTest(r, '!', 0, 1);
        return r;
    }

    private static void termsInBodies(boolean isFirst) {
        int[] terms = {0, 4, 7, 10, 11, 12, 20, 22, 30, 32, 40, 50};
        String all = "01234567";
        String[] with4 = {"", all, "", "4", "4", "4", "3", "3", "5", "5", all, ""};
        for (int i = 0; i < terms.length; i++) {
            boolean isLast = terms[i] == 50;
            due("term " + terms[i], bodyValues(terms[i], isFirst, 4), with4[i]);
            due("term " + terms[i], bodyValues(terms[i], isFirst, 5), terms[i] == 40 ? "" : isLast ? all : with4[i]);
        }
    }

    /** The values of a variable for which a body holds that has a term where the only atom has a 4. */
    private static String bodyValues(int term, boolean isFirst, int parameter) {
        AnswerFold x = with(2, 1);
        fact(x, 0, isFirst ? 4 : 6, isFirst ? 6 : 4);
        int r = x.addDisjunction(1);
        x.addHead(r, 1, term >= 10 && term < 40 ? 10 + term % 10 : X, 0);
        x.addAtom(r, true, 0, isFirst ? term : 6, isFirst ? 6 : term);
        x.ground(1, parameter);
        StringBuilder all = new StringBuilder();
        for (int v = 0; v < 8; v++) {
            all.append(x.state(1, v, 0) == 's' ? "" + v : "");
        }
        return all.toString();
    }

    private static void addTest() {
        holds(8, "Adds a test to the body of a rule; its terms may have values that are not from 0 to 7.", () -> {
            AnswerFold x = with(0);
            int w = x.addWeak(0, 1, 1);
            due("without it", x.instances(w), 1);
            x.addTest(w, '<', X, 3);
            due("with it", x.instances(w), 3);
            x.addTest(w, '!', X, 1);
            due("with both", x.instances(w), 2);
            due("8 is more than 7", instancesWith('<', 7, X_PLUS_ONE), 1);
            due("8 is 8", instancesWith('=', X_PLUS_ONE, 21), 8);
            due("-1 is less than 0", instancesWith('<', X_LESS_ONE, 0), 1);
            due("-1 is the parameter minus 1", instancesWith('=', X_LESS_ONE, PARAMETER_LESS_ONE), 1);
            due("-1 is not 0", instancesWith('!', PARAMETER_LESS_ONE, 0), 1);
            due("-1 is not 7", instancesWith('=', PARAMETER_LESS_ONE, 7), 0);
            due("8 is not 0", instancesWith('=', X_PLUS_ONE, 0), 0);
            due("-1 is not 8", instancesWith('=', X_LESS_ONE, 21), 6);
        });
        holds(8, "`rule`: the number of the rule", () -> {
            AnswerFold x = withRules(19);
            int last = x.addDisjunction(0);
            due("forbids", x.walk(), 0);
            due("the last rule", x.addTest(last, '<', 0, 0), 1);
            due("the first one", x.addTest(0, '<', 0, 0), 1);
            due("forbids no more", x.walk(), 1);
        });
        holds(8, "`test`: '<', '=' or '!'", () -> {
            due("less", instancesWith('<', X, Y), 28);
            due("equal", instancesWith('=', X, Y), 8);
            due("unequal", instancesWith('!', X, Y), 56);
            due("not less than itself", instancesWith('<', 3, 3), 0);
            due("equal to itself", instancesWith('=', 3, 3), 1);
            due("not unequal to itself", instancesWith('!', 3, 3), 0);
            due("not less than a lower one", instancesWith('<', 4, 3), 0);
            due("less than a higher one", instancesWith('<', 3, 4), 1);
        });
        holds(8, "`first`: the first term", () -> {
            int[] terms = {0, 7, 10, 12, 20, 22, 30, 32, 40, 50};
            int[] kept = {7, 0, 28, 28, 21, 21, 36, 36, 7, 8};
            for (int i = 0; i < terms.length; i++) {
                due("first term " + terms[i], instancesWith('<', terms[i], Y), kept[i]);
            }
        });
        holds(8, "`second`: the second term", () -> {
            int[] terms = {0, 7, 10, 12, 20, 22, 30, 32, 40, 50};
            int[] kept = {0, 7, 28, 28, 36, 36, 21, 21, 0, 0};
            for (int i = 0; i < terms.length; i++) {
                due("second term " + terms[i], instancesWith('<', Y, terms[i]), kept[i]);
            }
        });
        holds(8, "Returns the number of conditions.", () -> {
            AnswerFold x = with(1);
            for (int r : new int[] {x.addDisjunction(0), x.addChoice(0, 0, 1, 0), x.addWeak(0, 1, 1)}) {
                due("one", x.addTest(r, '<', 0, 0), 1);
                due("two, also of the same", x.addTest(r, '<', 0, 0), 2);
                refused("a refused one does not count", ARGUMENT, () -> x.addTest(r, '>', 0, 0));
                x.addAtom(r, true, 0, 0, 0);
                due("four", x.addTest(r, '=', 0, 0), 4);
                due("five", x.addTest(r, '!', 0, 0), 5);
            }
        });
        holds(8, "Throws `IndexOutOfBoundsException` if there is no such rule", () -> {
            AnswerFold x = with(1);
            fullBody(x);
            refusedEach("rule", INDEX, n -> x.addTest(n, '<', 0, 0), MIN, -1, 1, 20, MAX);
            refusedEach("rule, no test", INDEX, n -> x.addTest(n, '?', 0, 0), -1, 1);
            refusedEach("rule, no term", INDEX, n -> x.addTest(n, '<', 8, 8), -1, 1);
        });
        holds(8, "Throws `IllegalArgumentException` if there is no such test or term", () -> {
            AnswerFold x = with(1);
            for (int r : new int[] {x.addDisjunction(0), fullBody(x)}) {
                for (char test : new char[] {0, '>', '?', 'g', 't', ' ', '<' + 256, '=' + 256, '!' + 256, 0xffff}) {
                    refused("test " + (int) test, ARGUMENT, () -> x.addTest(r, test, 0, 0));
                }
                refusedEach("first term", ARGUMENT, t -> x.addTest(r, '<', t, 0), NO_TERMS);
                refusedEach("second term", ARGUMENT, t -> x.addTest(r, '<', 0, t), NO_TERMS);
            }
        });
        holds(8, "or it has the variable 2 in a choice with a span", () -> {
            AnswerFold x = with(1);
            int span = x.addChoice(0, 0, 9, 0);
            refusedEach("first term", ARGUMENT, t -> x.addTest(span, '<', t, 0), 12, 22, 32);
            refusedEach("second term", ARGUMENT, t -> x.addTest(span, '<', 0, t), 12, 22, 32);
            takenEach("other variables", t -> x.addTest(span, '<', t, t), 10, 11, 20, 21, 31);
            refused("before 5 conditions", ARGUMENT, () -> x.addTest(span, '<', Z, 0));
            for (int r : new int[] {x.addChoice(0, 0, 9, -1), x.addDisjunction(0), x.addWeak(0, 1, 1)}) {
                takenEach("other rules", t -> x.addTest(r, '<', t, t), 12, 22, 32);
            }
        });
        holds(8, "Throws `IllegalStateException` if there are 5 conditions", () -> {
            AnswerFold x = with(1);
            int r = x.addDisjunction(0);
            for (int i = 1; i <= 5; i++) {
                due("condition", x.addTest(r, '<', 0, 0), i);
            }
            refused("a sixth", STATE, () -> x.addTest(r, '<', 0, 0));
            refused("a sixth among others", STATE, () -> x.addTest(fullBody(x), '=', 0, 0));
        });
    }

    /** The instances of a weak rule of the part 0 with one test. */
    private static int instancesWith(char test, int first, int second) {
        AnswerFold x = new AnswerFold();
        int w = x.addWeak(0, 1, 1);
        x.addTest(w, test, first, second);
        return x.instances(w);
    }

    private static void addCount() {
        holds(9, "Adds a count to the body of a rule.", () -> {
            AnswerFold x = chooser(3, 0, 3);
            int r = x.addDisjunction(0);
            x.addHead(r, 2, 0, 0);
            x.addCount(r, 'g', 1, 2);
            due("two or three", answers(x, -1, 1, 1), "10 11 12 20 | 10 11 20 | 10 12 20 | 10 | 11 12 20 | 11 | 12 | -");
            x.addCount(r, 'l', 1, 2);
            due("two", answers(x, -1, 1, 1), "10 11 12 | 10 11 20 | 10 12 20 | 10 | 11 12 20 | 11 | 12 | -");
        });
        holds(9, "`rule`: the number of the rule", () -> {
            AnswerFold x = withRules(19);
            int last = x.addDisjunction(0);
            due("forbids", x.walk(), 0);
            due("the last rule", x.addCount(last, 'g', 0, 1), 1);
            due("the first one", x.addCount(0, 'g', 0, 1), 1);
            due("forbids no more", x.walk(), 1);
        });
        holds(9, "`kind`: 'g' or 'l'", () -> {
            for (int sure = 0; sure <= 3; sure++) {
                due("at least 2 of " + sure, costWith(sure, 'g', 2), sure >= 2 ? 1L : 0L);
                due("at most 2 of " + sure, costWith(sure, 'l', 2), sure <= 2 ? 1L : 0L);
            }
        });
        holds(9, "`predicate`: the predicate whose atoms are counted", () -> {
            AnswerFold x = with(1, 2, 0);
            fact(x, 0, 3, 0);
            fact(x, 1, 3, X);
            fact(x, 2, 0, 0);
            int[] due = {1, 8, 1};
            for (int p = 0; p < 3; p++) {
                int g = x.addWeak(0, 1, p + 1);
                x.addCount(g, 'g', p, due[p]);
                x.addCount(g, 'l', p, due[p]);
            }
            x.walk();
            due("each its own", x.cost(0, 1) + x.cost(0, 2) + x.cost(0, 3), 3L);
        });
        holds(9, "`bound`: the bound, 0 to 20", () -> {
            due("at least 0 of 0", costWith(0, 'g', 0), 1L);
            due("at most 0 of 0", costWith(0, 'l', 0), 1L);
            due("at most 0 of 1", costWith(1, 'l', 0), 0L);
            due("at least 1 of 0", costWith(0, 'g', 1), 0L);
            due("at least 20 of 19", costWith(19, 'g', 20), 0L);
            due("at least 20 of 20", costWith(20, 'g', 20), 1L);
            due("at most 20 of 20", costWith(20, 'l', 20), 1L);
            due("at most 20 of 21", costWith(21, 'l', 20), 0L);
            due("at least 20 of 64", costWith(64, 'g', 20), 1L);
            due("at most 20 of 64", costWith(64, 'l', 20), 0L);
        });
        holds(9, "Returns the number of conditions.", () -> {
            AnswerFold x = with(1);
            for (int r : new int[] {x.addDisjunction(0), x.addChoice(0, 0, 1, 0), x.addWeak(0, 1, 1)}) {
                due("one", x.addCount(r, 'g', 0, 0), 1);
                due("two, also of the same", x.addCount(r, 'g', 0, 0), 2);
                refused("a refused one does not count", ARGUMENT, () -> x.addCount(r, 'g', 0, 21));
                x.addAtom(r, true, 0, 0, 0);
                due("four", x.addCount(r, 'l', 0, 20), 4);
                due("five", x.addCount(r, 'l', 0, 20), 5);
            }
        });
        holds(9, "Throws `IndexOutOfBoundsException` if there is no such rule or predicate", () -> {
            AnswerFold x = with(1);
            int r = fullBody(x);
            refusedEach("rule", INDEX, n -> x.addCount(n, 'g', 0, 0), MIN, -1, 1, 20, MAX);
            refusedEach("predicate", INDEX, p -> x.addCount(r, 'g', p, 0), MIN, -1, 1, 6, MAX);
            refusedEach("rule, no kind", INDEX, n -> x.addCount(n, '<', 0, 0), -1, 1);
            refusedEach("predicate, bound out of range", INDEX, p -> x.addCount(r, 'l', p, 21), -1, 1);
        });
        holds(9, "Throws `IllegalArgumentException` if there is no such kind, or the bound is out of range", () -> {
            AnswerFold x = with(1);
            for (int r : new int[] {x.addDisjunction(0), fullBody(x)}) {
                for (char kind : new char[] {0, 'e', '<', 'G', 'L', 'g' + 256, 'l' + 256, 0xffff}) {
                    refused("kind " + (int) kind, ARGUMENT, () -> x.addCount(r, kind, 0, 0));
                }
                refusedEach("bound of 'g'", ARGUMENT, n -> x.addCount(r, 'g', 0, n), MIN, -1, 21, MAX);
                refusedEach("bound of 'l'", ARGUMENT, n -> x.addCount(r, 'l', 0, n), MIN, -1, 21, MAX);
            }
        });
        holds(9, "Throws `IllegalStateException` if there are 5 conditions", () -> {
            AnswerFold x = with(1);
            int r = x.addDisjunction(0);
            for (int i = 1; i <= 5; i++) {
                due("condition", x.addCount(r, 'g', 0, 0), i);
            }
            refused("a sixth", STATE, () -> x.addCount(r, 'g', 0, 0));
            refused("a sixth among others", STATE, () -> x.addCount(fullBody(x), 'l', 0, 0));
        });
    }

    /** What a weak rule with a count costs where so many atoms are sure. */
    private static long costWith(int sure, char kind, int bound) {
        AnswerFold x = with(2);
        if (sure >= 8) {
            int rows = x.addDisjunction(0);
            x.addHead(rows, 0, X, Y);
            x.addTest(rows, '<', X, sure / 8 < 8 ? sure / 8 : 20);
        }
        for (int v = 0; v < sure % 8; v++) {
            fact(x, 0, sure / 8, v);
        }
        int w = x.addWeak(0, 1, 2);
        x.addCount(w, kind, 0, bound);
        x.walk();
        due("so many are sure", x.size(0), sure);
        return x.cost(0, 2);
    }

    private static void ground() {
        holds(10, "Grounds a part.", () -> {
            AnswerFold x = with(1);
            int d = x.addDisjunction(2);
            x.addHead(d, 0, PARAMETER, 0);
            x.ground(1, 4);
            due("not this part", x.instances(d), 0);
            x.ground(2, 4);
            due("this part", answers(x, 1), "04");
            int late = x.addDisjunction(2);
            x.addHead(late, 0, PARAMETER_LESS_ONE, 0);
            due("with its later rules", answers(x, 1), "03 04");
        });
        holds(10, "`part`: the part, 1 to 3", () ->
            takenEach("part", p -> new AnswerFold().ground(p, 0), 1, 2, 3));
        holds(10, "`parameter`: the parameter, 0 to 7", () -> {
            for (int v = 0; v <= 7; v++) {
                AnswerFold x = with(2, 2);
                int d = x.addDisjunction(1);
                x.addHead(d, 0, PARAMETER, 6);
                int e = x.addDisjunction(1);
                x.addHead(e, 1, 7, PARAMETER_LESS_ONE);
                x.ground(1, v);
                due("parameter " + v, answers(x, 2, 2), "0" + v + "6" + (v == 0 ? "" : " 17" + (v - 1)));
            }
        });
        holds(10, "Returns how often parts were grounded by calls.", () -> {
            AnswerFold x = with(0);
            int[] parts = {3, 3, 1, 2, 1, 3};
            for (int i = 0; i < 6; i++) {
                refused("a refused call does not count", ARGUMENT, () -> x.ground(0, 0));
                due("times", x.ground(parts[i], i), i + 1);
            }
        });
        holds(10, "Throws `IllegalArgumentException` if a number is out of range", () -> {
            AnswerFold full = groundedSixTimes();
            for (AnswerFold x : new AnswerFold[] {with(0), full}) {
                refusedEach("part", ARGUMENT, p -> x.ground(p, 0), MIN, -1, 0, 4, MAX);
                refusedEach("parameter", ARGUMENT, v -> x.ground(1, v), MIN, -1, 8, 10, 40, MAX);
            }
        });
        holds(10, "Throws `IllegalStateException` if parts were grounded 6 times", () -> {
            AnswerFold x = groundedSixTimes();
            for (int part = 1; part <= 3; part++) {
                int p = part;
                refusedEach("part " + p + " with", STATE, v -> x.ground(p, v), 0, 1, 2, 3, 4, 5, 6, 7);
            }
        });
        holds(10, "or this part was grounded with this parameter", () -> {
            AnswerFold x = with(0);
            x.ground(2, 5);
            refused("again", STATE, () -> x.ground(2, 5));
            due("another part", x.ground(1, 5), 2);
            due("another parameter", x.ground(2, 4), 3);
            refused("the first one still", STATE, () -> x.ground(2, 5));
            refused("this one too", STATE, () -> x.ground(2, 4));
            due("0, though the part 0 has it", x.ground(3, 0), 4);
        });
    }

    private static AnswerFold groundedSixTimes() {
        AnswerFold x = with(0);
        for (int i = 0; i < 6; i++) {
            x.ground(1 + i % 3, i);
        }
        return x;
    }
}
