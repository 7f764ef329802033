import java.io.IOException;

/** Promises 15 to 18: what is grounded. */
public final class AnswerFoldGroundedTest extends SentenceTest {
    public static void main(String[] args) throws IOException {
        read(15, 18);
        state();
        open();
        instances();
        loops();
        loopsLimit();
        finish();
    }

    private static void state() {
        holds(15, "Returns how an atom is.", () -> {
            AnswerFold x = with(1, 1);
            fact(x, 0, 3, 0);
            int c = x.addChoice(0, 0, 1, 0);
            x.addHead(c, 1, 22, 0);
            due("a sure one", x.state(0, 3, 0), 's');
            due("an open one", x.state(1, 4, 0), 'o');
            due("one that is not possible", x.state(1, 3, 0), 'n');
            fact(x, 0, 7, 0);
            due("no element that is out of range", x.open(), 1);
            fact(x, 1, 4, 0);
            due("sure by then", x.state(1, 4, 0), 's');
        });
        holds(15, "`predicate`: the predicate", () -> {
            AnswerFold x = with(0, 0, 0, 0, 0, 0);
            rule(x, 0);
            choose(x, 0, 1, 5);
            due("the first one", x.state(0, 0, 0), 's');
            for (int p = 1; p < 5; p++) {
                due("between", x.state(p, 0, 0), 'n');
            }
            due("the last one", x.state(5, 0, 0), 'o');
        });
        holds(15, "`first`: the value of the first place, 0 to 7, of no meaning if there is none", () -> {
            AnswerFold x = with(1, 0);
            x.addHead(x.addDisjunction(0), 0, X_PLUS_ONE, 0);
            rule(x, 1);
            due("the lowest value", x.state(0, 0, 0), 'n');
            due("the next one", x.state(0, 1, 0), 's');
            due("the highest value", x.state(0, 7, 0), 's');
            takenEach("no place", v -> x.state(1, v, v), MIN, -1, 8, MAX);
            due("that atom", x.state(1, MAX, MIN), 's');
        });
        holds(15, "`second`: that of the second place", () -> {
            AnswerFold x = with(2, 1);
            x.addHead(x.addDisjunction(0), 0, 6, X_LESS_ONE);
            fact(x, 1, 2, 0);
            due("the highest value", x.state(0, 6, 7), 'n');
            due("the one before", x.state(0, 6, 6), 's');
            due("the lowest value", x.state(0, 6, 0), 's');
            due("of another first one", x.state(0, 5, 0), 'n');
            due("no second place", x.state(1, 2, MAX), 's');
            due("no second place", x.state(1, 3, MIN), 'n');
        });
        holds(15, "Returns 's' sure, 'o' open, 'n' not possible.", () -> {
            AnswerFold x = with(0, 0, 0);
            rule(x, 0, -2);
            due("open by an atom to be false", x.state(0, 0, 0), 'o');
            rule(x, 0);
            due("sure", x.state(0, 0, 0), 's');
            rule(x, 2, -1);
            due("not possible", x.state(2, 0, 0), 'n');
            rule(x, -1);
            due("also if there are no answers", "" + x.state(0, 0, 0) + x.state(2, 0, 0), "sn");
            AnswerFold y = with(0, 0);
            choose(y, 1, 1, 0);
            due("open, though it is in all answers", y.state(0, 0, 0), 'o');
            rule(y, 1, 1);
            due("not possible by itself", y.state(1, 0, 0), 'n');
        });
        holds(15, "Throws `IndexOutOfBoundsException` if there is no such predicate", () -> {
            AnswerFold x = with(1);
            refusedEach("predicate", INDEX, p -> x.state(p, 0, 0), MIN, -1, 1, 6, MAX);
            refusedEach("predicate, no value", INDEX, p -> x.state(p, 8, 8), MIN, -1, 1, MAX);
        });
        holds(15, "Throws `IllegalArgumentException` if a value is out of range", () -> {
            AnswerFold x = with(2, 1);
            refusedEach("first value", ARGUMENT, v -> x.state(0, v, 0), MIN, -1, 8, 10, 40, MAX);
            refusedEach("second value", ARGUMENT, v -> x.state(0, 0, v), MIN, -1, 8, 10, 40, MAX);
            refusedEach("the only value", ARGUMENT, v -> x.state(1, v, 0), MIN, -1, 8, MAX);
        });
    }

    private static void open() {
        holds(16, "Returns the number of open atoms.", () -> {
            AnswerFold x = with(2, 1, 0);
            due("none", x.open(), 0);
            int c = x.addChoice(0, 0, 1, -1);
            x.addHead(c, 0, X, Y);
            due("a whole predicate", x.open(), 64);
            fact(x, 0, 1, 1);
            due("without a sure one", x.open(), 63);
            choose(x, 0, 1, 2);
            due("of all predicates", x.open(), 64);
            x.addExternal(1, 3, 0);
            due("no false external", x.open(), 64);
            x.setExternal(0, 'u');
            due("a free one", x.open(), 65);
            x.setExternal(0, 't');
            due("no true one", x.open(), 64);
        });
        holds(16, "Returns the number of atoms.", () -> {
            AnswerFold x = with(2, 2, 2, 2, 2, 2);
            for (int p = 0; p < 6; p += 2) {
                int c = x.addChoice(0, 0, 9, -1);
                x.addHead(c, p, X, Y);
                x.addHead(c, p + 1, X, Y);
                due("so far", x.open(), 64 * (p + 2));
            }
            due("all that there are", x.open(), 384);
        });
    }

    private static void instances() {
        holds(17, "Returns the number of instances of a rule that are kept.", () -> {
            AnswerFold x = with(1, 2);
            int d = x.addDisjunction(0);
            x.addHead(d, 1, X, Y);
            x.addAtom(d, true, 0, X, 0);
            due("none", x.instances(d), 0);
            fact(x, 0, 2, 0);
            due("for a sure atom", x.instances(d), 8);
            int c = x.addChoice(0, 0, 1, -1);
            x.addHead(c, 0, 5, 0);
            due("for an open atom too", x.instances(d), 16);
            x.addTest(d, '<', X, Y);
            due("with a test", x.instances(d), 5 + 2);
            x.addAtom(d, false, 0, Y, 0);
            due("an open atom that is to be false may be", x.instances(d), 5 + 2);
            fact(x, 0, 6, 0);
            due("a sure one not: 2 without 6, 5 without 6, 6 with 7", x.instances(d), 4 + 1 + 1);
        });
        holds(17, "`rule`: the number of the rule", () -> {
            AnswerFold x = with(1);
            for (int r = 0; r < 20; r++) {
                int w = x.addWeak(r % 2, 1, 1);
                x.addTest(w, '<', X, r % 8);
            }
            for (int r = 0; r < 20; r++) {
                due("rule " + r, x.instances(r), r % 2 == 0 ? r % 8 : 0);
            }
            x.ground(1, 0);
            due("the last rule", x.instances(19), 3);
        });
        holds(17, "Returns the number of instances.", () -> {
            AnswerFold x = with(2, 2);
            int d = x.addDisjunction(1);
            x.addHead(d, 0, X, Y);
            x.addHead(d, 1, Y, Z);
            due("none, not grounded", x.instances(d), 0);
            for (int i = 1; i <= 6; i++) {
                x.ground(1, i);
                due("512 for each time", x.instances(d), 512 * i);
            }
        });
        holds(17, "Throws `IndexOutOfBoundsException` if there is no such rule", () -> {
            AnswerFold x = with(1);
            refusedEach("rule of none", INDEX, r -> x.instances(r), MIN, -1, 0, MAX);
            x.addWeak(0, 1, 1);
            refusedEach("rule of one", INDEX, r -> x.instances(r), MIN, -1, 1, 20, MAX);
            for (int i = 1; i < 20; i++) {
                x.addWeak(0, 1, 1);
            }
            refusedEach("rule of 20", INDEX, r -> x.instances(r), -1, 20, 21);
        });
    }

    private static void loops() {
        holds(18, "Returns the number of loops: largest sets of open atoms in which each one leads to each one", () -> {
            AnswerFold x = with(0, 0, 0, 0);
            due("of nothing", x.loops(), 0);
            choose(x, 0, 2, 0, 1);
            choose(x, 0, 2, 2, 3);
            due("no body", x.loops(), 0);
            rule(x, 0, 1);
            due("one way", x.loops(), 0);
            rule(x, 1, 0);
            due("both ways", x.loops(), 1);
            rule(x, 2, 3);
            rule(x, 3, 2);
            due("two sets", x.loops(), 2);
            rule(x, 0, 2);
            due("one way between them", x.loops(), 2);
            rule(x, 3, 1);
            due("largest sets", x.loops(), 1);
            AnswerFold y = with(0, 0);
            rule(y, 0, 1);
            rule(y, 1, 0);
            choose(y, 0, 1, 0);
            due("by the first rule and the next one", y.loops(), 1);
        });
        holds(18, "itself included, straight or over others", () -> {
            AnswerFold x = with(0, 0, 0, 0);
            choose(x, 0, 2, 0, 1);
            choose(x, 0, 2, 2, 3);
            rule(x, 3, 3);
            due("straight to itself", x.loops(), 1);
            rule(x, 0, 1);
            rule(x, 1, 2);
            due("a chain leads not back", x.loops(), 1);
            rule(x, 2, 0);
            due("over others", x.loops(), 2);
            rule(x, 2, 3);
            due("what a loop leads to is not in it", x.loops(), 2);
        });
        holds(18, "where a head or an element of an instance that is kept, which is open", () -> {
            AnswerFold x = with(0, 0, 0, 1);
            choose(x, 0, 2, 0, 1);
            int two = either(x, 0, 2);
            x.addAtom(two, true, 1, 0, 0);
            int other = either(x, 2, 1);
            x.addAtom(other, true, 2, 0, 0);
            due("both heads lead: 0 and 2 to 1, 1 and 2 to 2", x.loops(), 1);
            fact(x, 3, 4, 0);
            due("a sure atom", x.state(3, 4, 0), 's');
            int self = x.addDisjunction(0);
            x.addHead(self, 3, X, 0);
            x.addAtom(self, true, 3, X, 0);
            due("is in no loop", x.loops(), 1);
            AnswerFold y = with(1, 1, 0);
            fact(y, 0, 1, 0);
            fact(y, 0, 2, 0);
            int c = y.addChoice(0, 0, 9, 0);
            y.addHead(c, 1, Z, 0);
            due("no loop", y.loops(), 0);
            int d = y.addChoice(0, 0, 9, 0);
            y.addHead(d, 1, Z, 0);
            y.addAtom(d, true, 1, X, 0);
            due("elements of a span lead", y.loops(), 1);
            int kept = y.addDisjunction(0);
            y.addHead(kept, 2, 0, 0);
            y.addAtom(kept, true, 2, 0, 0);
            due("an instance that is not kept", y.loops(), 1);
            choose(y, 0, 1, 2);
            due("is kept", y.loops(), 2);
            y.addAtom(kept, false, 0, 1, 0);
            due("is not kept", y.loops(), 1);
        });
        holds(18, "leads to the open atoms of the body that are to be true.", () -> {
            AnswerFold x = with(0, 0, 0);
            choose(x, 0, 2, 0, 1);
            int d = rule(x, 0, -2);
            rule(x, 1, -1);
            due("not to those that are to be false", x.loops(), 0);
            x.addCount(d, 'g', 0, 1);
            due("nor to those that are counted", x.loops(), 0);
            rule(x, 2);
            int e = rule(x, 0, 2, 0);
            due("to the open one, not to the sure one", x.loops(), 1);
            int w = x.addWeak(0, 1, 1);
            x.addAtom(w, true, 1, 0, 0);
            due("a weak rule leads nowhere", x.loops(), 1);
            x.addTest(e, '<', 1, 1);
            due("not kept", x.loops(), 0);
            AnswerFold y = with(0, 0, 0);
            choose(y, 0, 2, 0, 1);
            choose(y, 0, 1, 2);
            rule(y, 0, 2, -2);
            int f = rule(y, 1, 2, -1);
            due("not to those that are to be false besides one that is to be true", y.loops(), 0);
            y.addCount(f, 'l', 1, 1);
            due("nor to those that are counted besides it", y.loops(), 0);
            y.addAtom(f, true, 1, 0, 0);
            due("to a second one that is to be true", y.loops(), 1);
        });
        holds(18, "Returns the number of sets.", () -> {
            AnswerFold x = with(2);
            int c = x.addChoice(0, 0, 1, -1);
            x.addHead(c, 0, X, Y);
            int d = x.addDisjunction(0);
            x.addHead(d, 0, X, Y);
            x.addAtom(d, true, 0, X, Y);
            due("64 of one each", x.loops(), 64);
            int e = x.addDisjunction(0);
            x.addHead(e, 0, 20, Y);
            x.addAtom(e, true, 0, X, Y);
            due("still", x.loops(), 64);
            int f = x.addDisjunction(0);
            x.addHead(f, 0, X, Y);
            x.addAtom(f, true, 0, 20, Y);
            due("eight of eight each", x.loops(), 8);
            AnswerFold y = with(2, 2, 2);
            int some = y.addChoice(0, 0, 2, -1);
            y.addHead(some, 0, X, Y);
            y.addHead(some, 1, X, Y);
            int far = y.addDisjunction(0);
            y.addHead(far, 1, X, Y);
            y.addAtom(far, true, 1, X, Y);
            due("64 among the later ones of 128", y.loops(), 64);
            int to = y.addDisjunction(0);
            y.addHead(to, 0, X, 0);
            y.addAtom(to, true, 1, X, 0);
            due("led to from afar", y.loops(), 64);
            int back = y.addDisjunction(0);
            y.addHead(back, 1, 20, 0);
            y.addAtom(back, true, 0, X, 0);
            due("not back to the same ones", y.loops(), 64);
            int same = y.addDisjunction(0);
            y.addHead(same, 1, X, 0);
            y.addAtom(same, true, 0, 20, 0);
            due("from 0 over 1 back: one of sixteen", y.loops(), 57);
        });
    }

    private static void loopsLimit() {
        holds(18, "Throws `UnsupportedOperationException` if more than 300 instances of all rules are kept", () -> {
            AnswerFold x = with(0, 0);
            choose(x, 0, 2, 0, 1);
            rule(x, 0, 1);
            rule(x, 1, 0);
            fill(x, 297);
            due("300", x.loops(), 1);
            int never = x.addDisjunction(1);
            due("those of parts that are not grounded do not count", x.loops(), 1);
            x.addAtom(never, true, 0, 0, 0);
            x.ground(1, 0);
            refused("301", UNSUPPORTED, () -> x.loops());
            x.addTest(never, '<', 0, 0);
            due("those that are not kept do not count", x.loops(), 1);
            fill(x, 64);
            refused("364", UNSUPPORTED, () -> x.loops());
            AnswerFold big = with(2, 2);
            int d = big.addDisjunction(1);
            big.addHead(d, 0, X, Y);
            big.addHead(d, 1, Y, Z);
            for (int i = 0; i < 6; i++) {
                big.ground(1, i);
                refused("512 for each time", UNSUPPORTED, () -> big.loops());
            }
            due("they can be counted", big.instances(d), 3072);
        });
    }
}
