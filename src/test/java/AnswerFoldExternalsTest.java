import java.io.IOException;

/** Promises 11 to 14: externals and assumptions. */
public final class AnswerFoldExternalsTest extends SentenceTest {
    public static void main(String[] args) throws IOException {
        read(11, 14);
        addExternal();
        setExternal();
        assume();
        dropAssumptions();
        finish();
    }

    private static void addExternal() {
        holds(11, "Adds an external, which is false.", () -> {
            AnswerFold x = with(0, 0);
            rule(x, 1, 0);
            x.addExternal(0, 0, 0);
            due("not possible", x.state(0, 0, 0), 'n');
            due("nor what follows", x.state(1, 0, 0), 'n');
            due("nothing is open", x.open(), 0);
            due("the answer without it", answers(x, 0, 0), "-");
            due("false before", x.setExternal(0, 't'), 'f');
            AnswerFold y = with(0);
            rule(y, 0);
            y.addExternal(0, 0, 0);
            due("rules give it all the same", y.state(0, 0, 0), 's');
        });
        holds(11, "`predicate`: the predicate", () -> {
            AnswerFold x = with(0, 0, 0, 0, 0, 0);
            for (int p = 0; p < 6; p++) {
                x.addExternal(p, 0, 0);
                x.setExternal(p, 't');
                due("it is sure", x.state(p, 0, 0), 's');
                due("so many", x.walk() * x.size(0), p + 1);
            }
        });
        holds(11, "`first`: the value of the first place, 0 to 7, of no meaning if there is none", () -> {
            for (int v : new int[] {0, 3, 7}) {
                AnswerFold x = with(1);
                x.setExternal(x.addExternal(0, v, 0), 't');
                due("its value", answers(x, 1), "0" + v);
            }
            for (int v : new int[] {MIN, -1, 8, 10, MAX}) {
                AnswerFold x = with(0);
                due("no place", x.addExternal(0, v, v), 0);
                refused("it is the same atom", STATE, () -> x.addExternal(0, 0, 0));
            }
        });
        holds(11, "`second`: that of the second place", () -> {
            for (int v : new int[] {0, 3, 7}) {
                AnswerFold x = with(2);
                x.setExternal(x.addExternal(0, 5, v), 't');
                due("its value", answers(x, 2), "05" + v);
            }
            for (int v : new int[] {MIN, -1, 8, 10, MAX}) {
                AnswerFold x = with(1);
                due("no place", x.addExternal(0, 4, v), 0);
                refused("it is the same atom", STATE, () -> x.addExternal(0, 4, 0));
            }
        });
        holds(11, "Returns the number of the external.", () -> {
            AnswerFold x = with(2);
            for (int i = 0; i < 6; i++) {
                refused("a number is not used up", ARGUMENT, () -> x.addExternal(0, 8, 0));
                due("number", x.addExternal(0, 7 - i, i), i);
            }
        });
        holds(11, "Throws `IndexOutOfBoundsException` if there is no such predicate", () -> {
            refusedEach("predicate", INDEX, p -> with(1).addExternal(p, 0, 0), MIN, -1, 1, 6, MAX);
            refusedEach("predicate, no value", INDEX, p -> with(1).addExternal(p, 8, 8), -1, 1);
            refusedEach("predicate, 6 externals", INDEX, p -> sixExternals().addExternal(p, 0, 0), -1, 1);
        });
        holds(11, "Throws `IllegalArgumentException` if a value is out of range", () -> {
            AnswerFold x = with(2, 1);
            refusedEach("first value", ARGUMENT, v -> x.addExternal(0, v, 0), MIN, -1, 8, 10, 40, MAX);
            refusedEach("second value", ARGUMENT, v -> x.addExternal(0, 0, v), MIN, -1, 8, 10, 40, MAX);
            refusedEach("the only value", ARGUMENT, v -> x.addExternal(1, v, 0), MIN, -1, 8, MAX);
            refusedEach("value, 6 externals", ARGUMENT, v -> sixExternals().addExternal(0, v, 0), -1, 8);
        });
        holds(11, "Throws `IllegalStateException` if there are 6 externals, or the atom is one", () -> {
            AnswerFold x = sixExternals();
            refused("a seventh", STATE, () -> x.addExternal(0, 7, 0));
            x.setExternal(3, 'r');
            refused("a seventh, also if one is released", STATE, () -> x.addExternal(0, 7, 0));
            due("its atom is none", x.state(0, 7, 0), 'n');
            AnswerFold y = with(1);
            y.addExternal(0, 2, 0);
            for (char state : new char[] {'f', 't', 'u', 'r'}) {
                y.setExternal(0, state);
                refused("it is one, " + state, STATE, () -> y.addExternal(0, 2, 0));
            }
            due("another atom is none", y.addExternal(0, 3, 0), 1);
        });
    }

    private static AnswerFold sixExternals() {
        AnswerFold x = with(1);
        for (int i = 0; i < 6; i++) {
            x.addExternal(0, i, 0);
        }
        return x;
    }

    private static void setExternal() {
        holds(12, "Sets an external.", () -> {
            AnswerFold x = with(1);
            x.addExternal(0, 2, 0);
            x.addExternal(0, 5, 0);
            x.setExternal(1, 't');
            due("this one", answers(x, 1), "05");
            x.setExternal(0, 'u');
            due("the other one", answers(x, 1), "02 05 | 05");
            x.setExternal(1, 'f');
            due("back", answers(x, 1), "02 | -");
        });
        holds(12, "`external`: the number of the external", () -> {
            AnswerFold x = sixExternals();
            for (int e = 0; e < 6; e++) {
                x.setExternal(e, 't');
                due("its atom is sure", x.state(0, e, 0), 's');
                x.setExternal(e, 'f');
                due("and is not", x.state(0, e, 0), 'n');
            }
        });
        holds(12, "`state`: 't' true, 'f' false, 'u' free, 'r' released for good", () -> {
            AnswerFold x = with(0, 0);
            rule(x, 1, -1);
            x.addExternal(0, 0, 0);
            x.setExternal(0, 't');
            due("true", answers(x, 0, 0), "0");
            due("sure", x.state(0, 0, 0), 's');
            x.setExternal(0, 'f');
            due("false", answers(x, 0, 0), "1");
            due("not possible", x.state(0, 0, 0), 'n');
            x.setExternal(0, 'u');
            due("free", answers(x, 0, 0), "0 | 1");
            due("open", x.state(0, 0, 0), 'o');
            x.setExternal(0, 'r');
            due("released", answers(x, 0, 0), "1");
            due("not possible", x.state(0, 0, 0), 'n');
            for (char state : new char[] {'t', 'f', 'u', 'r'}) {
                refused("for good", STATE, () -> x.setExternal(0, state));
            }
            due("still", answers(x, 0, 0), "1");
        });
        holds(12, "Returns the state before.", () -> {
            AnswerFold x = sixExternals();
            char[] states = {'f', 't', 'f', 'u', 't', 't', 'u', 'u', 'f', 'f', 'r'};
            for (int i = 1; i < states.length; i++) {
                due("before", x.setExternal(4, states[i]), states[i - 1]);
            }
            due("another one", x.setExternal(5, 'u'), 'f');
            refused("no state", ARGUMENT, () -> x.setExternal(5, 'x'));
            due("a refused call changes nothing", x.setExternal(5, 'r'), 'u');
        });
        holds(12, "Throws `IndexOutOfBoundsException` if there is no such external", () -> {
            AnswerFold x = with(1);
            refusedEach("external of none", INDEX, e -> x.setExternal(e, 't'), MIN, -1, 0, 1, MAX);
            x.addExternal(0, 0, 0);
            refusedEach("external", INDEX, e -> x.setExternal(e, 't'), MIN, -1, 1, 6, 100, MAX);
            refusedEach("external, no state", INDEX, e -> x.setExternal(e, 'x'), -1, 1);
            refusedEach("external of six", INDEX, e -> sixExternals().setExternal(e, 't'), -1, 6);
        });
        holds(12, "Throws `IllegalArgumentException` if there is no such state", () -> {
            AnswerFold x = sixExternals();
            x.setExternal(1, 'r');
            for (char state : new char[] {0, 'T', 'F', 'n', 's', 'o', ' ', 't' + 256, 'f' + 256, 'u' + 256, 0xffff}) {
                refused("state " + (int) state, ARGUMENT, () -> x.setExternal(0, state));
                refused("state of a released one " + (int) state, ARGUMENT, () -> x.setExternal(1, state));
            }
        });
        holds(12, "Throws `IllegalStateException` if it is released", () -> {
            AnswerFold x = sixExternals();
            for (char before : new char[] {'f', 't', 'u'}) {
                int e = before == 'f' ? 0 : before == 't' ? 1 : 2;
                x.setExternal(e, before);
                due("released", x.setExternal(e, 'r'), before);
                for (char state : new char[] {'t', 'f', 'u', 'r'}) {
                    refused("released, " + state, STATE, () -> x.setExternal(e, state));
                }
            }
            due("another one", x.setExternal(3, 't'), 'f');
        });
    }

    private static void assume() {
        holds(13, "Assumes that an atom is in answers, or that it is not, in place of what was assumed of it.", () -> {
            AnswerFold x = with(0, 0, 0);
            choose(x, 0, 2, 0, 1);
            due("nothing assumed", answers(x, 0, 0), "0 1 | 0 | 1 | -");
            x.assume(0, 0, 0, true);
            due("in answers", answers(x, 0, 0), "0 1 | 0");
            due("by all", x.walkByAll(), 2);
            x.assume(0, 0, 0, false);
            due("in its place", answers(x, 0, 0), "1 | -");
            due("by all", x.walkByAll(), 2);
            x.assume(1, 0, 0, false);
            due("and of another one", answers(x, 0, 0), "-");
            x.assume(1, 0, 0, true);
            due("in its place", answers(x, 0, 0), "1");
            due("it makes no atom sure", x.state(1, 0, 0), 'o');
            due("nor not possible", x.state(0, 0, 0), 'o');
            x.assume(2, 0, 0, false);
            due("what is not possible is not in them", x.walk(), 1);
            x.assume(2, 0, 0, true);
            due("nor can it be", x.walk(), 0);
            due("by all", x.walkByAll(), 0);
            rule(x, 2);
            due("what is sure is in them", answers(x, 0, 0, 0), "1 2");
            x.assume(2, 0, 0, false);
            due("nor can it lack", x.walk(), 0);
        });
        holds(13, "`predicate`: the predicate", () -> {
            for (int p = 0; p < 6; p++) {
                AnswerFold x = with(0, 0, 0, 0, 0, 0);
                for (int q = 0; q < 6; q += 2) {
                    choose(x, 1, 1, q, q + 1);
                }
                x.assume(p, 0, 0, true);
                due("four of eight", x.walk(), 4);
                due("in all", x.holds(p, 0, 0), 'a');
            }
        });
        holds(13, "`first`: the value of the first place, 0 to 7, of no meaning if there is none", () -> {
            for (int v : new int[] {0, 4, 7}) {
                AnswerFold x = chooser(8, 1, 1);
                x.assume(1, v, MAX, true);
                due("its value", answers(x, -1, 1), "1" + v);
            }
            AnswerFold x = with(0);
            choose(x, 0, 1, 0);
            due("no place", x.assume(0, 8, 8, true), 1);
            due("the same atom", x.assume(0, MIN, MAX, true), 1);
            due("that one", answers(x, 0), "0");
        });
        holds(13, "`second`: that of the second place", () -> {
            for (int v : new int[] {0, 4, 7}) {
                AnswerFold x = with(2);
                int c = x.addChoice(0, 1, 1, -1);
                x.addHead(c, 0, 5, v);
                x.addHead(c, 0, 5, 1);
                x.assume(0, 5, v, true);
                due("its value", answers(x, 2), "05" + v);
            }
            AnswerFold x = with(1);
            due("no place", x.assume(0, 5, 8, true), 1);
            due("the same atom", x.assume(0, 5, MIN, true), 1);
            due("another one", x.assume(0, 4, 8, true), 2);
        });
        holds(13, "`isIn`: whether it is in them", () -> {
            AnswerFold x = with(0);
            choose(x, 0, 1, 0);
            x.assume(0, 0, 0, false);
            due("it is not", answers(x, 0), "-");
            x.assume(0, 0, 0, true);
            due("it is", answers(x, 0), "0");
        });
        holds(13, "Returns the number of atoms of which something is assumed.", () -> {
            AnswerFold x = with(2, 0);
            due("one", x.assume(0, 1, 2, true), 1);
            due("the same", x.assume(0, 1, 2, true), 1);
            due("the other way", x.assume(0, 1, 2, false), 1);
            due("another one", x.assume(0, 2, 1, false), 2);
            due("of another predicate", x.assume(1, 0, 0, true), 3);
            refused("a refused call does not count", ARGUMENT, () -> x.assume(0, 8, 0, true));
            AnswerFold many = with(2, 2);
            for (int i = 0; i < 128; i++) {
                due("many", many.assume(i / 64, i / 8 % 8, i % 8, i % 3 == 0), i + 1);
            }
        });
        holds(13, "Throws `IndexOutOfBoundsException` if there is no such predicate", () -> {
            AnswerFold x = with(1);
            refusedEach("predicate", INDEX, p -> x.assume(p, 0, 0, true), MIN, -1, 1, 6, MAX);
            refusedEach("predicate, no value", INDEX, p -> x.assume(p, 8, 8, false), MIN, -1, 1, MAX);
            due("nothing is assumed", x.dropAssumptions(), 0);
        });
        holds(13, "Throws `IllegalArgumentException` if a value is out of range", () -> {
            AnswerFold x = with(2, 1);
            refusedEach("first value", ARGUMENT, v -> x.assume(0, v, 0, true), MIN, -1, 8, 10, MAX);
            refusedEach("second value", ARGUMENT, v -> x.assume(0, 0, v, false), MIN, -1, 8, 10, MAX);
            refusedEach("the only value", ARGUMENT, v -> x.assume(1, v, 0, false), MIN, -1, 8, 10, MAX);
            due("nothing is assumed", x.dropAssumptions(), 0);
        });
    }

    private static void dropAssumptions() {
        holds(14, "Drops all assumptions.", () -> {
            AnswerFold x = with(0, 0, 0);
            choose(x, 0, 2, 0, 1);
            x.assume(0, 0, 0, true);
            x.assume(1, 0, 0, false);
            x.assume(2, 0, 0, true);
            due("none fits", x.walk(), 0);
            x.dropAssumptions();
            due("all fit", x.walk(), 4);
            due("by all", x.walkByAll(), 4);
            due("from one on", x.assume(1, 0, 0, true), 1);
        });
        holds(14, "Returns the number of atoms of which something was assumed.", () -> {
            AnswerFold x = with(2);
            due("none", x.dropAssumptions(), 0);
            x.assume(0, 0, 0, true);
            x.assume(0, 7, 7, false);
            x.assume(0, 7, 7, false);
            due("two", x.dropAssumptions(), 2);
            due("none any more", x.dropAssumptions(), 0);
        });
    }
}
