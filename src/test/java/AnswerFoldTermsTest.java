import java.io.IOException;
import java.nio.file.Files;
import java.nio.file.Path;
import java.util.Arrays;
import java.util.List;

/** What the document says before promise 1: of terms, parts, grounding, answers and limits. */
public final class AnswerFoldTermsTest extends SentenceTest {
    private static String source;

    public static void main(String[] args) throws IOException {
        read(0, 0);
        source = Files.readString(Path.of("src/main/java/AnswerFold.java"));
        use();
        atoms();
        terms();
        rules();
        parts();
        instances();
        outOfRange();
        sure();
        possible();
        conditions();
        answersOfDisjunctions();
        answersOfChoices();
        answersAndExternals();
        leastAnswers();
        costsAndOrder();
        walks();
        exceptions();
        theInterface();
        finish();
    }

    private static void use() {
        holds(0, "An answer set solver: predicates and rules with variables, spans, tests and counts", () -> {
            AnswerFold x = with(1, 1, 0);
            fact(x, 0, PARAMETER, 0);
            int late = x.addDisjunction(1);
            x.addHead(late, 0, PARAMETER, 0);
            x.ground(1, 3);
            int c = x.addChoice(0, 1, 2, 0);
            x.addHead(c, 1, Z, 0);
            int r = x.addDisjunction(0);
            x.addHead(r, 2, 0, 0);
            x.addAtom(r, true, 1, X, 0);
            x.addTest(r, '<', X, 3);
            x.addCount(r, 'l', 1, 1);
            weak(x, 5, 1, 3);
            due("answers from the cheapest one on", answers(x, 1, 1, 0), "00 03 10 2 | 00 03 10 13 | 00 03 13");
        });
        holds(0, "An object is used for at most 512 calls", () -> {
            AnswerFold x = with(0, 0);
            either(x, 0, 1);
            x.addExternal(1, 0, 0);
            for (int call = 6; call < 508; call++) {
                due("call " + call, x.setExternal(0, call % 2 == 0 ? 'u' : 'f'), call == 6 || call % 2 == 0 ? 'f' : 'u');
            }
            due("call 508", x.setExternal(0, 'u'), 'f');
            due("call 509", x.open(), 2);
            due("call 510", x.walkByAll(), 2);
            due("call 511", x.walk(), 2);
            due("call 512", x.has(1, 1, 0, 0), true);
        });
    }

    private static void atoms() {
        holds(0, "At most 6 predicates are numbered from 0; a predicate has 0 to 2 places.", () -> {
            AnswerFold x = new AnswerFold();
            for (int i = 0; i < 6; i++) {
                due("predicate", x.addPredicate(i % 3), i);
            }
            refused("a seventh", STATE, () -> x.addPredicate(0));
            refusedEach("places", ARGUMENT, n -> new AnswerFold().addPredicate(n), -1, 3);
        });
        holds(0, "An atom has a predicate and, for each of its places, a value from 0 to 7.", () -> {
            AnswerFold x = with(2);
            int d = x.addDisjunction(0);
            x.addHead(d, 0, X, Y);
            due("64 atoms", x.instances(d), 64);
            x.walk();
            due("all of them", x.size(0), 64);
            takenEach("first value", v -> x.state(0, v, 7 - v), 0, 1, 2, 3, 4, 5, 6, 7);
            refusedEach("first value", ARGUMENT, v -> x.state(0, v, 0), MIN, -1, 8, MAX);
            refusedEach("second value", ARGUMENT, v -> x.state(0, 0, v), MIN, -1, 8, MAX);
        });
        holds(0, "Atoms are ordered by their predicates, then by the first values, then by the second ones.", () -> {
            due("by predicates", twoInOrder(0, 7, 7, 1, 0, 0), "077 | 100");
            due("by the first values", twoInOrder(0, 3, 7, 0, 4, 0), "037 | 040");
            due("by the second values", twoInOrder(0, 4, 6, 0, 4, 7), "046 | 047");
        });
    }

    /** The answers of a program that has one of two atoms, told with the later one ahead. */
    private static String twoInOrder(int p, int a, int b, int q, int c, int d) {
        AnswerFold x = with(2, 2);
        int r = x.addDisjunction(0);
        x.addHead(r, q, c, d);
        x.addHead(r, p, a, b);
        return answers(x, 2, 2);
    }

    private static void terms() {
        holds(0, "A term is told as an int: 0 to 7 is a value; 10 to 12 are the variables 0 to 2", () -> {
            for (int v = 0; v < 8; v++) {
                due("value " + v, sureBy(v), "" + v);
            }
            for (int v = 0; v < 3; v++) {
                due("variable " + v, sureBy(10 + v), "01234567");
                due("variable plus 1 " + v, sureBy(20 + v), "1234567");
                due("variable minus 1 " + v, sureBy(30 + v), "0123456");
            }
            due("the parameter", sureBy(40), "5");
            due("the parameter minus 1", sureBy(50), "4");
            refusedEach("term", ARGUMENT, t -> sureBy(t), NO_TERMS);
            AnswerFold x = with(2);
            int d = x.addDisjunction(0);
            x.addHead(d, 0, X, 22);
            x.addTest(d, '=', X, 3);
            x.addTest(d, '=', Z, 4);
            due("each variable has its own value", x.state(0, 3, 5), 's');
            x.walk();
            due("and no other", x.size(0), 1);
        });
        holds(0, "Terms for places that a predicate does not have are of no meaning.", () -> {
            AnswerFold x = with(0, 1);
            int d = x.addDisjunction(0);
            takenEach("a first one", t -> headOfNew(0, t, t), NO_TERMS);
            takenEach("a second one", t -> headOfNew(1, 0, t), NO_TERMS);
            takenEach("a first one in a body", t -> conditionOfNew(0, t, t), NO_TERMS);
            takenEach("a second one in a body", t -> conditionOfNew(1, 0, t), NO_TERMS);
            x.addHead(d, 1, 3, X);
            x.addAtom(d, false, 0, Y, Z);
            due("a variable does not occur there", x.instances(d), 1);
            due("the atom", x.state(1, 3, 0), 'o');
            AnswerFold y = with(1, 0);
            fact(y, 0, 7, X_PLUS_ONE);
            fact(y, 1, X_LESS_ONE, PARAMETER_LESS_ONE);
            due("no value is out of range there", y.instances(0) + y.instances(1), 2);
            due("nor keeps its atom from being sure", y.state(0, 7, 0), 's');
            due("nor this one", y.state(1, 0, 0), 's');
        });
    }

    /** The values for which a head with a term is sure, in a part grounded with 5. */
    private static String sureBy(int term) {
        AnswerFold x = with(1);
        x.addHead(x.addDisjunction(2), 0, term, 0);
        x.ground(2, 5);
        StringBuilder all = new StringBuilder();
        for (int v = 0; v < 8; v++) {
            all.append(x.state(0, v, 0) == 's' ? "" + v : "");
        }
        return all.toString();
    }

    private static int headOfNew(int places, int first, int second) {
        AnswerFold x = with(places);
        return x.addHead(x.addDisjunction(0), 0, first, second);
    }

    private static int conditionOfNew(int places, int first, int second) {
        AnswerFold x = with(places);
        return x.addAtom(x.addDisjunction(0), true, 0, first, second);
    }

    private static void rules() {
        holds(0, "At most 20 rules are numbered from 0.", () -> {
            AnswerFold x = with(0);
            for (int i = 0; i < 20; i++) {
                int got = i % 3 == 0 ? x.addDisjunction(0) : i % 3 == 1 ? x.addChoice(0, 0, 0, -1) : x.addWeak(0, 0, 1);
                due("rule", got, i);
            }
            refused("a disjunction more", STATE, () -> x.addDisjunction(0));
            refused("a choice more", STATE, () -> x.addChoice(0, 0, 0, -1));
            refused("a weak rule more", STATE, () -> x.addWeak(0, 0, 1));
        });
        holds(0, "A rule belongs to a part from 0 to 3.", () -> {
            AnswerFold x = with(1);
            for (int part = 0; part <= 3; part++) {
                int d = x.addDisjunction(part);
                x.addHead(d, 0, part, 0);
            }
            x.ground(2, 0);
            due("grounded parts", answers(x, 1), "00 02");
            refusedEach("part", ARGUMENT, p -> x.addDisjunction(p), -1, 4);
        });
        holds(0, "It is a disjunction, 'd', with at most 2 heads, a choice, 'c', with at most 2 heads", () -> {
            AnswerFold x = with(1);
            int[] both = {x.addDisjunction(0), x.addChoice(0, 0, 2, -1), x.addChoice(0, 0, 2, 0)};
            for (int r : both) {
                due("a head", x.addHead(r, 0, r, 0), 1);
                due("two heads", x.addHead(r, 0, 7, 0), 2);
                refused("three heads", STATE, () -> x.addHead(r, 0, 7, 0));
            }
            int w = x.addWeak(0, 1, 1);
            refused("a weak rule has no heads", STATE, () -> x.addHead(w, 0, 0, 0));
            refused("a span has one place", ARGUMENT, () -> with(0).addChoice(0, 0, 1, 0));
            refused("a span has one place", ARGUMENT, () -> with(2).addChoice(0, 0, 1, 0));
        });
        holds(0, "Its body has at most 5 conditions", () -> {
            AnswerFold x = with(1);
            int[] rules = {x.addDisjunction(0), x.addChoice(0, 0, 2, -1), x.addWeak(0, 1, 1)};
            for (int r : rules) {
                due("an atom that is to be true", x.addAtom(r, true, 0, 0, 0), 1);
                due("one that is to be false", x.addAtom(r, false, 0, 1, 0), 2);
                due("a test", x.addTest(r, '<', 0, 1), 3);
                due("at least", x.addCount(r, 'g', 0, 0), 4);
                due("at most", x.addCount(r, 'l', 0, 20), 5);
                refused("six", STATE, () -> x.addAtom(r, true, 0, 0, 0));
                refused("six", STATE, () -> x.addTest(r, '<', 0, 1));
                refused("six", STATE, () -> x.addCount(r, 'g', 0, 0));
            }
        });
    }

    private static void parts() {
        holds(0, "The part 0 is grounded, with the parameter 0; a part from 1 on is grounded by calls", () -> {
            AnswerFold x = with(1);
            fact(x, 0, PARAMETER, 0);
            due("the part 0 with 0", answers(x, 1), "00");
            refused("the part 0 by a call", ARGUMENT, () -> x.ground(0, 1));
            int[] parts = {1, 2, 3, 1, 2, 3};
            for (int i = 0; i < 6; i++) {
                due("time", x.ground(parts[i], i), i + 1);
            }
            for (int part = 1; part <= 3; part++) {
                int p = part;
                refused("a seventh time", STATE, () -> x.ground(p, 7));
            }
        });
        holds(0, "Only rules of grounded parts matter, once for each time.", () -> {
            AnswerFold x = with(1);
            int d = x.addDisjunction(1);
            x.addHead(d, 0, PARAMETER, 0);
            int w = x.addWeak(1, 3, 1);
            int never = x.addDisjunction(2);
            due("not before", answers(x, 1), "-");
            due("no instance", x.instances(d) + x.instances(w), 0);
            for (int i = 0; i < 3; i++) {
                x.ground(1, 2 * i);
                due("instances", x.instances(d), i + 1);
                x.walk();
                due("cost", x.cost(0, 1), 3L * (i + 1));
            }
            due("each parameter", answers(x, 1), "00 02 04");
            due("that part is not grounded", x.instances(never), 0);
            due("nor forbids its rule anything", x.walk(), 1);
        });
    }

    private static void instances() {
        holds(0, "A rule has an instance for each choice of values from 0 to 7 for all variables that occur", () -> {
            AnswerFold x = with(2, 2, 0);
            int none = x.addWeak(0, 1, 1);
            due("no variable", x.instances(none), 1);
            int one = x.addWeak(0, 1, 1);
            x.addTest(one, '=', X, X);
            due("one variable, in a test", x.instances(one), 8);
            int third = x.addChoice(0, 0, 0, -1);
            x.addHead(third, 0, 32, 22);
            due("the last variable alone, in a head", x.instances(third), 8);
            int two = x.addDisjunction(0);
            x.addHead(two, 1, X, Z);
            due("two variables", x.instances(two), 64);
            int all = x.addDisjunction(1);
            x.addHead(all, 1, X, Y);
            x.addAtom(all, false, 2, 0, 0);
            x.addTest(all, '!', Z, PARAMETER);
            x.ground(1, 0);
            due("three variables", x.instances(all), 8 * 8 * 7);
            x.ground(1, 7);
            due("for each time", x.instances(all), 2 * 8 * 8 * 7);
            int body = x.addWeak(0, 1, 1);
            x.addAtom(body, true, 1, X, Y);
            due("in a body", x.instances(body), 64);
            x.addAtom(body, true, 1, Y, X);
            due("the same ones again", x.instances(body), 64);
        });
        holds(0, "In a choice with a span, the variable 2 is local", () -> {
            AnswerFold x = with(1, 2, 0);
            int c = x.addChoice(0, 0, 9, 0);
            x.addHead(c, 1, X, Z);
            due("not chosen", x.instances(c), 8);
            due("no atom of the span, no element", x.open(), 0);
            fact(x, 0, 2, 0);
            fact(x, 0, 7, 0);
            due("two for each value of the variable 0", x.open(), 16);
            due("this one", x.state(1, 5, 7), 'o');
            due("not this one", x.state(1, 5, 6), 'n');
            x.addHead(c, 1, 32, 2);
            due("both heads: 1 and 6 with 2 besides, and 2 is not new", x.open(), 16);
            AnswerFold next = with(1, 1);
            fact(next, 1, 0, 0);
            int less = next.addChoice(0, 0, 9, 0);
            next.addHead(less, 1, 32, 0);
            due("an atom of the next predicate is none of the span", next.open(), 0);
            AnswerFold y = with(1, 1, 0);
            choose(y, 0, 1, 2);
            int d = y.addDisjunction(0);
            y.addHead(d, 0, 4, 0);
            y.addAtom(d, true, 2, 0, 0);
            int e = y.addChoice(0, 0, 9, 0);
            y.addHead(e, 1, Z, 0);
            y.addHead(e, 1, 0, 0);
            due("an open atom of the span gives no element", y.state(1, 4, 0), 'n');
            due("nor for a head without the variable 2", y.state(1, 0, 0), 'n');
            due("the instance is there all the same", y.instances(e), 1);
            fact(y, 0, 3, 0);
            due("one that is sure does", y.state(1, 3, 0) == 'o' && y.state(1, 0, 0) == 'o', true);
        });
        holds(0, "in other rules, the heads are the elements", () -> {
            AnswerFold x = with(1);
            int c = x.addChoice(0, 1, 1, -1);
            x.addHead(c, 0, 4, 0);
            x.addHead(c, 0, 6, 0);
            due("one of two", answers(x, 1), "04 | 06");
            AnswerFold y = with(1);
            int d = y.addChoice(0, 1, 1, -1);
            y.addHead(d, 0, Z, 0);
            due("without a span, the variable 2 is chosen", y.instances(d), 8);
            due("each of its elements", answers(y, 1), "00 01 02 03 04 05 06 07");
        });
    }

    private static void outOfRange() {
        holds(0, "An instance of a disjunction in which a head has a value that is not from 0 to 7 is left out", () -> {
            AnswerFold x = with(1, 2, 0);
            int up = x.addDisjunction(0);
            x.addHead(up, 0, X_PLUS_ONE, 0);
            due("8 is too large", x.instances(up), 7);
            due("the rest is there", answers(x, 1), "01 02 03 04 05 06 07");
            int second = x.addDisjunction(0);
            x.addHead(second, 1, Y, X_LESS_ONE);
            due("-1 is too small, in a second place", x.instances(second), 56);
            int third = x.addDisjunction(0);
            x.addHead(third, 1, Y, X_PLUS_ONE);
            due("8 is too large, in a second place", x.instances(third), 56);
            due("also behind a first place that is 7", x.state(1, 7, 7) == 's' && x.open() == 0, true);
            int two = x.addDisjunction(0);
            x.addHead(two, 0, X, 0);
            x.addHead(two, 0, 30, 0);
            due("one head of two is enough", x.instances(two), 7);
            AnswerFold y = with(0, 1);
            int parameter = y.addDisjunction(0);
            y.addHead(parameter, 1, PARAMETER_LESS_ONE, 0);
            due("left out, it forbids nothing", y.walk(), 1);
            due("and counts nowhere", y.instances(parameter), 0);
        });
        holds(0, "in choices, with a span or without, an element that has such a value is left out alone", () -> {
            AnswerFold x = with(1, 1);
            int c = x.addChoice(0, 1, 1, -1);
            x.addHead(c, 1, PARAMETER_LESS_ONE, 0);
            x.addHead(c, 1, 3, 0);
            due("without a span", answers(x, 1, 1), "13");
            due("the instance stays", x.instances(c), 1);
            fact(x, 0, 7, 0);
            fact(x, 0, 4, 0);
            int s = x.addChoice(0, 1, 1, 0);
            x.addHead(s, 1, 22, 0);
            due("with a span", answers(x, 1, 1), "04 07 13 15");
            due("the instance stays", x.instances(s), 1);
            AnswerFold y = with(1);
            int none = y.addChoice(0, 1, 1, -1);
            y.addHead(none, 0, PARAMETER_LESS_ONE, 0);
            due("no element is left, and the lower bound is not met", y.walk(), 0);
            AnswerFold z = with(1, 2);
            fact(z, 0, 7, 0);
            int places = z.addChoice(0, 0, 9, 0);
            z.addHead(places, 1, 22, 3);
            z.addHead(places, 1, 3, 22);
            due("in a first place and in a second one", z.open(), 0);
            due("no element of another value", z.state(1, 4, 0), 'n');
        });
        holds(0, "in a body, an atom with such a value is false.", () -> {
            AnswerFold x = with(1, 0, 0);
            int d = x.addDisjunction(0);
            x.addHead(d, 0, X, 0);
            int up = rule(x, 1);
            x.addAtom(up, true, 0, X_PLUS_ONE, 0);
            due("true for 7 of 8", x.instances(up), 7);
            int down = rule(x, 2);
            x.addAtom(down, false, 0, X_LESS_ONE, 0);
            due("false for 1 of 8", x.instances(down), 1);
            AnswerFold y = with(2, 0);
            y.addHead(y.addDisjunction(0), 0, X, Y);
            int second = rule(y, 1);
            y.addAtom(second, true, 0, X, 21);
            due("in a second place", y.instances(second), 56);
            int less = rule(y, 1);
            y.addAtom(less, false, 0, X, 31);
            due("in a second place, to be false", y.instances(less), 8);
            due("and it holds", answers(x, 1, 0, 0), "00 01 02 03 04 05 06 07 1 2");
        });
    }

    private static void sure() {
        holds(0, "An atom is sure if it must be so, beginning with the externals that are true", () -> {
            AnswerFold x = with(0, 0, 0, 1, 0, 0);
            int ext = x.addExternal(0, 0, 0);
            rule(x, 1, 0);
            due("a false external is not sure", x.state(0, 0, 0), 'n');
            x.setExternal(ext, 'u');
            due("a free one is not sure", x.state(0, 0, 0), 'o');
            x.setExternal(ext, 't');
            due("a true one is", x.state(0, 0, 0), 's');
            due("and what follows", x.state(1, 0, 0), 's');
            int test = rule(x, 2, 1);
            x.addTest(test, '<', 1, 2);
            due("a test that holds", x.state(2, 0, 0), 's');
            int fails = rule(x, 4, 1);
            x.addTest(fails, '<', 2, 2);
            due("a test that does not hold", x.state(4, 0, 0), 'n');
            int two = either(x, 4, 5);
            due("two heads", x.state(4, 0, 0), 'o');
            due("its instance is kept", x.instances(two), 1);
            int steps = x.addDisjunction(0);
            x.addHead(steps, 3, X_PLUS_ONE, 0);
            x.addAtom(steps, true, 3, X, 0);
            fact(x, 3, 5, 0);
            due("over many steps", x.state(3, 7, 0), 's');
            due("not the other way", x.state(3, 4, 0), 'n');
        });
        holds(0, "of whose body all conditions are tests that hold and atoms that are to be true and are sure", () -> {
            AnswerFold x = with(0, 0, 0, 0, 0, 1);
            rule(x, 0);
            rule(x, 1, 0, -5);
            due("an atom that is to be false, though it can't be true", x.state(1, 0, 0), 'o');
            int c = rule(x, 2, 0);
            x.addCount(c, 'g', 0, 0);
            due("a count, though it holds", x.state(2, 0, 0), 'o');
            int choice = choose(x, 1, 1, 3);
            x.addAtom(choice, true, 0, 0, 0);
            due("a choice, though it must be chosen", x.state(3, 0, 0), 'o');
            rule(x, 4, 3);
            due("an atom that is not sure", x.state(4, 0, 0), 'o');
            int range = x.addDisjunction(0);
            x.addHead(range, 5, 1, 0);
            x.addAtom(range, false, 5, PARAMETER_LESS_ONE, 0);
            due("an atom out of range that is to be false", x.state(5, 1, 0), 'o');
            due("most of them hold", answers(x, 0, 0, 0, 0, 0, 1), "0 2 3 4 51");
        });
        holds(0, "An atom that is possible, but not sure, is open.", () -> {
            AnswerFold x = with(0, 0, 0, 0);
            rule(x, 0);
            either(x, 1, 2);
            due("sure", x.state(0, 0, 0), 's');
            due("open", x.state(1, 0, 0), 'o');
            due("not possible", x.state(3, 0, 0), 'n');
            due("two open ones", x.open(), 2);
            rule(x, 1);
            due("one that became sure", x.open(), 1);
        });
    }

    private static void possible() {
        holds(0, "An atom is possible if it may be so, beginning with the externals that are true or free", () -> {
            AnswerFold x = with(0, 0, 0, 0, 1, 0);
            x.addExternal(0, 0, 0);
            x.addExternal(1, 0, 0);
            x.setExternal(0, 'u');
            x.setExternal(1, 't');
            rule(x, 2, 0, 1);
            due("by a free one and a true one", x.state(2, 0, 0), 'o');
            rule(x, 3, 0, -2);
            due("not by an atom to be false that is sure", x.state(3, 0, 0), 'n');
            x.setExternal(1, 'f');
            due("a false one is not possible", x.state(1, 0, 0), 'n');
            due("nor what it was needed for", x.state(2, 0, 0), 'n');
            due("but what must lack it", x.state(3, 0, 0), 'o');
            x.setExternal(0, 'r');
            due("nor is a released one", x.state(0, 0, 0), 'n');
            rule(x, 3, -3);
            due("an atom to be false that is open", x.state(3, 0, 0), 'o');
            int t = x.addDisjunction(0);
            x.addHead(t, 4, X, 0);
            x.addAtom(t, false, 2, 0, 0);
            x.addTest(t, '<', 5, X);
            due("where tests hold", x.open(), 3);
            int w = choose(x, 0, 0, 5);
            due("elements, though none may be chosen", x.state(5, 0, 0), 'o');
            due("of that choice", x.instances(w), 1);
        });
        holds(0, "counts do not matter here", () -> {
            AnswerFold x = with(0, 0, 0);
            int g = rule(x, 0);
            x.addCount(g, 'g', 2, 20);
            int l = rule(x, 1);
            x.addCount(l, 'l', 0, 0);
            due("at least 20 of none", x.state(0, 0, 0), 'o');
            due("what follows", x.state(1, 0, 0), 'o');
            due("kept", x.instances(g) + x.instances(l), 2);
            due("but it is in no answer", answers(x, 0, 0, 0), "1");
        });
        holds(0, "An instance is kept if this is so of its body.", () -> {
            AnswerFold x = with(1, 1, 0);
            fact(x, 0, 2, 0);
            int c = x.addChoice(0, 0, 9, -1);
            x.addHead(c, 1, 3, 0);
            x.addHead(c, 1, 4, 0);
            int w = x.addWeak(0, 1, 1);
            x.addAtom(w, true, 1, X, 0);
            due("two are possible", x.instances(w), 2);
            int v = x.addWeak(0, 1, 1);
            x.addAtom(v, false, 1, X, 0);
            due("none is sure", x.instances(v), 8);
            int u = x.addWeak(0, 1, 1);
            x.addAtom(u, false, 0, X, 0);
            due("one is sure", x.instances(u), 7);
            x.addTest(u, '<', X, 4);
            due("tests", x.instances(u), 3);
            x.addCount(u, 'g', 2, 20);
            due("counts do not matter", x.instances(u), 3);
            int both = x.addWeak(0, 1, 1);
            x.addAtom(both, true, 1, X, 0);
            x.addAtom(both, false, 1, X, 0);
            due("an open atom that is to be true and to be false", x.instances(both), 2);
            int d = x.addDisjunction(0);
            x.addAtom(d, true, 0, X, 0);
            x.addAtom(d, true, 2, 0, 0);
            due("one of two is not possible", x.instances(d), 0);
        });
    }

    private static void conditions() {
        holds(0, "A set of atoms holds a condition as one would think", () -> {
            AnswerFold x = with(0, 1, 0, 0);
            choose(x, 0, 2, 0, 2);
            int d = x.addDisjunction(0);
            x.addHead(d, 1, X, 0);
            x.addAtom(d, true, 0, 0, 0);
            x.addAtom(d, false, 2, 0, 0);
            x.addTest(d, '<', X, 5);
            x.addTest(d, '!', X, 1);
            x.addTest(d, '<', X_LESS_ONE, 2);
            due("in it, not in it, and tests", answers(x, 0, 1, 0), "0 10 12 | 0 2 | 2 | -");
            int equal = rule(x, 3, 0, 2);
            x.addTest(equal, '=', 7, X_PLUS_ONE);
            due("7 is 6 plus 1", x.instances(equal), 1);
            due("and its head", answers(x, 0, 1, 0, 0), "0 10 12 | 0 2 3 | 2 | -");
            for (int bound = 0; bound <= 4; bound++) {
                due("at least " + bound, counted('g', bound), "1".repeat(4 - bound) + "0".repeat(bound));
                due("at most " + bound, counted('l', bound),
                        "0".repeat(Math.max(0, 3 - bound)) + "1".repeat(Math.min(4, bound + 1)));
            }
        });
    }

    /** For answers with three to no atoms of a predicate, whether a count of them holds. */
    private static String counted(char kind, int bound) {
        AnswerFold x = with(1, 0);
        int c = x.addChoice(0, 0, 2, -1);
        x.addHead(c, 0, 0, 0);
        int d = x.addChoice(0, 0, 2, -1);
        x.addHead(d, 0, 1, 0);
        x.addAtom(d, true, 0, 0, 0);
        int e = x.addChoice(0, 0, 2, -1);
        x.addHead(e, 0, 2, 0);
        x.addAtom(e, true, 0, 1, 0);
        int r = rule(x, 1);
        x.addCount(r, kind, 0, bound);
        StringBuilder all = new StringBuilder();
        int n = x.walk();
        for (int i = 0; i < n; i++) {
            all.append(x.has(i, 1, 0, 0) ? '1' : '0');
        }
        return all.toString();
    }

    private static void answersOfDisjunctions() {
        holds(0, "of each instance of a disjunction whose body it holds, some head is in it", () -> {
            AnswerFold x = with(0, 0, 0);
            x.assume(2, 0, 0, true);
            due("no atom that is not possible", x.walk(), 0);
            x.dropAssumptions();
            either(x, 0, 1);
            due("some head", answers(x, 0, 0, 0), "0 | 1");
            rule(x, 2, 1);
            due("only where the body holds", answers(x, 0, 0, 0), "0 | 1 2");
            rule(x, -1, 2);
            due("no head: no set that holds the body", answers(x, 0, 0, 0), "0");
            rule(x, -1);
            due("an empty body always holds", x.walk(), 0);
            due("by all", x.walkByAll(), 0);
        });
    }

    private static void answersOfChoices() {
        holds(0, "at least as many elements as the lower bound tells, and at most as many as the upper one", () -> {
            String[] due = {"0 1 | 0 | 1 | -", "0 1 | 0 | 1", "0 1", "", "0 | 1 | -", "-", "0 | 1"};
            int[][] bounds = {{0, 2}, {1, 9}, {2, 3}, {3, 3}, {0, 1}, {0, 0}, {1, 1}};
            for (int i = 0; i < due.length; i++) {
                AnswerFold x = with(0, 0);
                choose(x, bounds[i][0], bounds[i][1], 0, 1);
                due("from " + bounds[i][0] + " to " + bounds[i][1], answers(x, 0, 0), due[i]);
                due("by all", x.walkByAll(), x.walk());
            }
            AnswerFold x = with(0, 0);
            choose(x, 1, 1, 0, 0);
            due("each atom counted once", answers(x, 0, 0), "0");
            AnswerFold twice = with(0, 1, 1);
            rule(twice, 0);
            choose(twice, 1, 1, 0, 0);
            due("also a sure one", answers(twice, 0), "0");
            choose(twice, 2, 2, 0, 0);
            due("which is not two", twice.walk(), 0);
            AnswerFold spanned = with(1, 0, 0);
            fact(spanned, 0, 2, 0);
            fact(spanned, 0, 5, 0);
            int both = spanned.addChoice(0, 1, 1, 0);
            spanned.addHead(both, 1, 0, 0);
            due("also if several values of a span give it", answers(spanned, -1, 0), "1");
            rule(spanned, 1);
            due("and it is sure", answers(spanned, -1, 0), "1");
            spanned.addHead(both, 2, 0, 0);
            due("besides another one", answers(spanned, -1, 0, 0), "1");
            int c = choose(x, 2, 2, 0, 1);
            due("also what other rules give", answers(x, 0, 0), "0 1");
            x.addAtom(c, false, 0, 0, 0);
            due("only where the body holds", answers(x, 0, 0), "0");
            AnswerFold y = with(0, 0);
            rule(y, 0);
            choose(y, 0, 0, 0);
            due("a sure element above the upper bound", y.walk(), 0);
            AnswerFold z = with(0, 0);
            choose(z, 2, 2, 0, 1);
            rule(z, 1);
            due("a sure element counts to the lower bound", answers(z, 0, 0), "0 1");
            AnswerFold span = chooser(8, 8, 8);
            due("eight of eight", span.walk(), 1);
            due("nine of eight", chooser(8, 9, 9).walk(), 0);
        });
    }

    private static void answersAndExternals() {
        holds(0, "externals that are true are in it, those that are false or released are in it only by rules", () -> {
            AnswerFold x = with(0, 0);
            x.addExternal(0, 0, 0);
            due("false: not in it", answers(x, 0, 0), "-");
            x.setExternal(0, 'u');
            due("free: in it or not", answers(x, 0, 0), "0 | -");
            x.setExternal(0, 't');
            due("true: in it", answers(x, 0, 0), "0");
            x.setExternal(0, 'f');
            choose(x, 0, 1, 1);
            rule(x, 0, 1);
            due("false: by rules", answers(x, 0, 0), "0 1 | -");
            x.setExternal(0, 'u');
            due("free: by rules or not", answers(x, 0, 0), "0 1 | 0 | -");
            x.setExternal(0, 'r');
            due("released: by rules", answers(x, 0, 0), "0 1 | -");
        });
    }

    private static void leastAnswers() {
        holds(0, "and there is no set with fewer of its atoms, and no others", () -> {
            AnswerFold x = with(0, 0, 0);
            either(x, 0, 1);
            either(x, 1, 2);
            due("none with fewer atoms", answers(x, 0, 0, 0), "0 2 | 1");
            rule(x, 1, 0);
            rule(x, 2, 1);
            due("what bodies ask for stays", answers(x, 0, 0, 0), "1 2");
            due("by all", x.walkByAll(), 1);

            AnswerFold first = with(0, 0);
            either(first, 0, 1);
            rule(first, 0, 1);
            due("one head alone does where it is the first one", answers(first, 0, 0), "0");
            rule(first, 1, 0);
            due("neither does alone", answers(first, 0, 0), "0 1");
            AnswerFold second = with(0, 0);
            either(second, 0, 1);
            rule(second, 1, 0);
            due("one head alone does where it is the second one", answers(second, 0, 0), "1");
            AnswerFold lone = with(0, 0);
            either(lone, 0, 1);
            rule(lone, 0, 1);
            rule(lone, -1, -2);
            due("it does away with the set of both, though it is none itself", lone.walk(), 0);

            AnswerFold loop = with(0, 0, 0);
            choose(loop, 0, 1, 2);
            rule(loop, 0, 2);
            rule(loop, 0, 1);
            rule(loop, 1, 0);
            due("no loop without a ground", answers(loop, 0, 0, 0), "0 1 2 | -");
            due("by all", loop.walkByAll(), 2);

            AnswerFold picked = with(0, 0, 0);
            choose(picked, 0, 1, 0);
            either(picked, 0, 1);
            due("elements that are in it stay", answers(picked, 0, 0), "0 | 1");
            AnswerFold held = with(0, 0);
            int c = choose(held, 0, 2, 0);
            held.addAtom(c, true, 1, 0, 0);
            int d = choose(held, 0, 2, 1);
            held.addAtom(d, true, 0, 0, 0);
            either(held, 0, 1);
            due("each element holds up the other one, from either one on", answers(held, 0, 0), "0 1 | 0 | 1");
            AnswerFold ring = with(0, 0, 0);
            c = choose(ring, 0, 2, 0);
            ring.addAtom(c, true, 1, 0, 0);
            d = choose(ring, 0, 2, 1);
            ring.addAtom(d, true, 0, 0, 0);
            int start = choose(ring, 0, 2, 0);
            ring.addAtom(start, true, 2, 0, 0);
            choose(ring, 0, 1, 2);
            due("but only of bodies that the smaller set holds too", answers(ring, 0, 0, 0), "0 1 2 | 0 2 | 2 | -");
            due("by all", ring.walkByAll(), 4);

            AnswerFold free = with(0, 0);
            free.addExternal(0, 0, 0);
            free.setExternal(0, 'u');
            either(free, 0, 1);
            due("free ones that are in it stay", answers(free, 0, 0), "0 | 1");
            free.setExternal(0, 't');
            due("true ones stay", answers(free, 0, 0), "0");

            AnswerFold denied = with(0, 0);
            rule(denied, 0, -1);
            due("an atom that denies itself", denied.walk(), 0);
            rule(denied, 0, -2);
            due("with another reason", answers(denied, 0, 0), "0");

            AnswerFold counts = with(1, 0);
            int both = counts.addDisjunction(0);
            counts.addHead(both, 0, 1, 0);
            counts.addCount(both, 'g', 0, 1);
            int seed = counts.addChoice(0, 0, 1, -1);
            counts.addHead(seed, 0, 0, 0);
            due("a count holds nothing up by itself", answers(counts, 1, 0), "00 01 | -");
            int most = rule(counts, 1);
            counts.addCount(most, 'l', 0, 1);
            due("a count 'l' holds in fewer atoms too", answers(counts, 1, 0), "00 01 | 1");
            due("by all", counts.walkByAll(), 2);
        });
    }

    private static void costsAndOrder() {
        holds(0, "The cost of an answer at a level from 1 to 3 is the sum of the weights of all instances", () -> {
            AnswerFold x = chooser(3, 0, 3);
            int w = x.addWeak(0, -99, 2);
            x.addAtom(w, true, 1, X, 0);
            int v = x.addWeak(0, 99, 3);
            x.addAtom(v, false, 1, X, 0);
            x.addAtom(v, true, 0, Y, 0);
            int u = x.addWeak(1, 7, 1);
            x.ground(1, 4);
            x.ground(1, 5);
            due("eight", x.walk(), 8);
            due("all: three instances", x.cost(0, 2), -297L);
            due("all: five values for each of three", x.cost(0, 3), 99L * 5 * 3);
            due("none: no instance", x.cost(7, 2), 0L);
            due("none: eight values for each of three", x.cost(7, 3), 99L * 8 * 3);
            due("both times", x.cost(4, 1), 14L);
            due("that rule", x.instances(u), 2);
            refused("level 0", ARGUMENT, () -> x.cost(0, 0));
            refused("level 4", ARGUMENT, () -> x.cost(0, 4));
        });
        holds(0, "Answers are walked from the one with the least cost at the level 3 on", () -> {
            AnswerFold x = chooser(4, 1, 1);
            due("in the order of atoms", answers(x, -1, 1), "10 | 11 | 12 | 13");
            weak(x, 1, 1, 0);
            due("the level 1", answers(x, -1, 1), "11 | 12 | 13 | 10");
            weak(x, 1, 2, 1);
            due("the level 2 before the level 1", answers(x, -1, 1), "12 | 13 | 10 | 11");
            weak(x, 1, 3, 2);
            due("the level 3 before the level 2", answers(x, -1, 1), "13 | 10 | 11 | 12");
            weak(x, 1, 3, 3);
            weak(x, -50, 1, 3);
            due("of several by lower levels", answers(x, -1, 1), "10 | 11 | 13 | 12");
            weak(x, -2, 3, 2);
            due("less than nothing", answers(x, -1, 1), "12 | 10 | 11 | 13");
            AnswerFold y = with(0, 0, 0);
            choose(y, 0, 2, 0, 1);
            choose(y, 0, 1, 2);
            due("the one that has the first atom in which they differ", answers(y, 0, 0, 0),
                    "0 1 2 | 0 1 | 0 2 | 0 | 1 2 | 1 | 2 | -");
        });
    }

    private static void walks() {
        holds(0, "A walk finds all answers that fit the assumptions, and is kept until something is told", () -> {
            AnswerFold x = with(0, 0);
            either(x, 0, 1);
            due("all", x.walk(), 2);
            x.assume(1, 0, 0, false);
            due("that fit", answers(x, 0, 0), "0");
            x.dropAssumptions();
            int part = x.addDisjunction(1);
            x.addExternal(0, 0, 0);
            List<Call> looks = Arrays.asList(() -> x.open(), () -> x.loops(), () -> x.instances(0), () -> x.walk(),
                    () -> x.walkByAll(), () -> x.state(0, 0, 0), () -> x.has(0, 0, 0, 0), () -> x.meanSize());
            List<Call> changes = Arrays.asList(() -> x.addPredicate(0), () -> x.addDisjunction(2),
                    () -> x.addChoice(2, 0, 1, -1), () -> x.addWeak(2, 1, 1), () -> x.addHead(part, 0, 0, 0),
                    () -> x.addAtom(part, true, 0, 0, 0), () -> x.addTest(part, '<', 0, 1),
                    () -> x.addCount(part, 'g', 0, 1), () -> x.addExternal(1, 0, 0), () -> x.setExternal(0, 'f'),
                    () -> x.setExternal(0, 'u'), () -> x.setExternal(1, 'r'), () -> x.ground(3, 0),
                    () -> x.assume(0, 0, 0, true), () -> x.assume(0, 0, 0, true), () -> x.dropAssumptions(),
                    () -> x.dropAssumptions());
            for (int i = 0; i < changes.size(); i++) {
                x.walk();
                for (Call look : looks) {
                    look.answer();
                }
                due("kept before the change " + i, x.best() > 0, true);
                changes.get(i).answer();
                refused("dropped by the change " + i, STATE, () -> x.best());
            }
        });
    }

    private static void exceptions() {
        holds(0, "A method that throws an exception changes nothing.", () -> {
            AnswerFold x = chooser(2, 1, 1);
            x.addExternal(2, 0, 0);
            x.setExternal(x.addExternal(2, 1, 0), 'r');
            x.assume(1, 0, 0, true);
            x.ground(1, 0);
            x.walk();
            List<Call> calls = Arrays.asList(() -> x.addPredicate(3), () -> x.addDisjunction(4),
                    () -> x.addChoice(0, 2, 1, -1), () -> x.addWeak(0, 100, 1), () -> x.addHead(0, 0, 8, 0),
                    () -> x.addHead(9, 0, 0, 0), () -> x.addAtom(0, true, 0, 8, 0), () -> x.addAtom(2, true, 0, Z, 0),
                    () -> x.addTest(0, '?', 0, 1), () -> x.addTest(2, '<', 0, Z), () -> x.addCount(0, 'g', 0, 21),
                    () -> x.ground(0, 0), () -> x.ground(1, 0), () -> x.addExternal(2, 0, 0),
                    () -> x.addExternal(2, 9, 0), () -> x.setExternal(0, 'y'), () -> x.setExternal(2, 't'),
                    () -> x.setExternal(1, 't'), () -> x.assume(1, 8, 0, false), () -> x.assume(9, 0, 0, false),
                    () -> x.state(9, 0, 0), () -> x.instances(77), () -> x.has(1, 0, 0, 0), () -> x.size(5),
                    () -> x.cost(0, 4), () -> x.projected(3), () -> x.holds(3, 0, 0), () -> x.reason(0, 1, 1, 0),
                    () -> x.share(3, 0, 0));
            for (int i = 0; i < calls.size(); i++) {
                Object got = null;
                try {
                    got = calls.get(i).answer();
                } catch (RuntimeException e) {
                    due("the walk is kept after the refused call " + i, x.best(), 1);
                }
                due("what the call " + i + " answers", String.valueOf(got), "null");
            }
            due("as many times", x.ground(2, 0), 2);
            due("the same answer", answers(x, 1, 1, 1), "00 01 10");
            due("as many rules", x.addDisjunction(1), 3);
            due("as many predicates", x.addPredicate(0), 3);
            due("as many externals", x.addExternal(2, 2, 0), 2);
            due("as many assumptions", x.dropAssumptions(), 1);
            due("as many heads", x.addHead(0, 0, 0, 0), 2);
            due("as many conditions", x.addTest(0, '<', 1, 0), 1);
        });
        holds(0, "If several exceptions apply, the one that is documented first is thrown.", () -> {
            AnswerFold x = with(1, 1, 1, 1, 1, 1);
            x.addWeak(0, 0, 1);
            for (int i = 0; i < 5; i++) {
                x.addTest(0, '<', 0, 1);
            }
            x.addChoice(0, 0, 1, 0);
            for (int i = 0; i < 18; i++) {
                x.addDisjunction(0);
            }
            for (int i = 0; i < 6; i++) {
                x.setExternal(x.addExternal(i, 0, 0), 'r');
                x.ground(1, i);
            }
            refused("addPredicate", ARGUMENT, () -> x.addPredicate(3));
            refused("addDisjunction", ARGUMENT, () -> x.addDisjunction(4));
            refused("addChoice", ARGUMENT, () -> x.addChoice(0, 1, 0, -1));
            refused("addWeak", ARGUMENT, () -> x.addWeak(0, 0, 0));
            refused("addHead", INDEX, () -> x.addHead(0, 6, 8, 0));
            refused("addHead", ARGUMENT, () -> x.addHead(0, 0, 8, 0));
            refused("addAtom", INDEX, () -> x.addAtom(0, true, -1, 8, 0));
            refused("addAtom", ARGUMENT, () -> x.addAtom(0, true, 0, 8, 0));
            refused("addTest", INDEX, () -> x.addTest(20, '?', 8, 0));
            refused("addTest", ARGUMENT, () -> x.addTest(0, '?', 0, 0));
            refused("addCount", INDEX, () -> x.addCount(20, '?', 0, 21));
            refused("addCount", ARGUMENT, () -> x.addCount(0, '?', 0, 0));
            refused("ground", ARGUMENT, () -> x.ground(1, 8));
            refused("addExternal", INDEX, () -> x.addExternal(6, 8, 0));
            refused("addExternal", ARGUMENT, () -> x.addExternal(0, 8, 0));
            refused("setExternal", INDEX, () -> x.setExternal(6, 'q'));
            refused("setExternal", ARGUMENT, () -> x.setExternal(0, 'q'));
            refused("assume", INDEX, () -> x.assume(6, 8, 0, true));
            refused("state", INDEX, () -> x.state(6, 8, 0));
            refused("has", STATE, () -> x.has(-1, 6, 8, 0));
            refused("size", STATE, () -> x.size(-1));
            refused("cost", STATE, () -> x.cost(-1, 0));
            refused("projected", STATE, () -> x.projected(6));
            refused("holds", STATE, () -> x.holds(6, 8, 0));
            refused("reason", STATE, () -> x.reason(-1, 6, 8, 0));
            refused("share", STATE, () -> x.share(6, 8, 0));
            refused("commonest", STATE, () -> x.commonest());
            refused("meanSize", STATE, () -> x.meanSize());
            due("no answers", x.walk(), 0);
            refused("has, walked", INDEX, () -> x.has(0, 0, 8, 0));
            refused("cost, walked", INDEX, () -> x.cost(0, 0));
            refused("holds, walked", INDEX, () -> x.holds(6, 8, 0));
            refused("reason, walked", INDEX, () -> x.reason(0, 0, 8, 0));
            refused("share, walked, no predicate", INDEX, () -> x.share(6, 8, 0));
            refused("share, walked, no value", ARGUMENT, () -> x.share(0, 8, 0));
        });
    }

    /** The source says what stands ahead of which calls. */
    private static void theInterface() {
        ahead("---- programs", "addPredicate", "addDisjunction", "addChoice", "addWeak", "addHead", "addAtom", "addTest",
                "addCount", "ground");
        ahead("---- externals and assumptions", "addExternal", "setExternal", "assume", "dropAssumptions");
        ahead("---- what is grounded", "state", "open", "instances", "loops");
        ahead("---- answers", "walk", "walkByAll", "has", "size", "cost", "best", "projected", "holds", "reason");
        ahead("---- figures", "share", "commonest", "meanSize");
    }

    private static void ahead(String words, String... calls) {
        holds(0, "the interface says: " + words + ".", () -> {
            int from = source.indexOf("// " + words + "\n");
            due("the words stand in the source", from >= 0, true);
            int end = source.indexOf("// ----", from + 3);
            String part = source.substring(Math.max(0, from), end < 0 ? source.length() : end);
            StringBuilder found = new StringBuilder();
            for (String line : part.split("\n")) {
                found.append(line.startsWith("    public ") ? line.replaceAll(".* (\\w+)\\(.*\\).*\\{", "$1 ") : "");
            }
            due("the calls behind them", found.toString().trim(), String.join(" ", calls));
        });
    }
}
