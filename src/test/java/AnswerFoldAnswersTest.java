import java.io.IOException;

/** Promises 19 to 27: answers. */
public final class AnswerFoldAnswersTest extends SentenceTest {
    private static final int[] NO_ANSWERS_OF_TWO = {MIN, -1, 2, 64, MAX};

    public static void main(String[] args) throws IOException {
        read(19, 27);
        walk();
        walkLimits();
        walkByAll();
        has();
        size();
        cost();
        best();
        projected();
        atomHolds();
        reason();
        reasonsAmongRules();
        finish();
    }

    /** Two answers, the atoms 0 and 1, and a sure atom of the predicate 2, with the values 3 and 5. */
    private static AnswerFold two() {
        AnswerFold x = with(0, 0, 2, 1);
        either(x, 0, 1);
        fact(x, 2, 3, 5);
        return x;
    }

    private static AnswerFold twoWalked() {
        AnswerFold x = two();
        x.walk();
        return x;
    }

    private static AnswerFold noneWalked() {
        AnswerFold x = two();
        rule(x, -1);
        x.walk();
        return x;
    }

    private static void walk() {
        holds(19, "Walks.", () -> {
            AnswerFold x = two();
            refused("before", STATE, () -> x.size(0));
            x.walk();
            due("then answers can be looked at", x.size(0), 2);
            due("again", x.walk(), 2);
            x.assume(0, 0, 0, true);
            due("anew", x.walk(), 1);
            due("other answers", x.size(0), 2);
        });
        holds(19, "Returns the number of answers.", () -> {
            due("none", chooser(2, 3, 3).walk(), 0);
            due("one", chooser(2, 2, 2).walk(), 1);
            due("two", chooser(2, 1, 1).walk(), 2);
            due("64", chooser(6, 0, 6).walk(), 64);
            AnswerFold x = chooser(6, 0, 6);
            x.assume(1, 3, 0, false);
            due("that fit", x.walk(), 32);
        });
    }

    /** Six times one of two: 12 open atoms, and 6 instances. */
    private static AnswerFold sixPairs() {
        AnswerFold x = with(1, 1, 0);
        for (int v = 0; v < 6; v++) {
            int c = x.addChoice(0, 1, 1, -1);
            x.addHead(c, 0, v, 0);
            x.addHead(c, 1, v, 0);
        }
        return x;
    }

    private static void walkLimits() {
        String limits = "Throws `UnsupportedOperationException` if there are more than 12 open atoms";
        holds(19, limits, () -> {
            AnswerFold x = sixPairs();
            due("open", x.open(), 12);
            due("12 open atoms", x.walk(), 64);
            choose(x, 1, 1, 2);
            due("open", x.open(), 13);
            refused("13 open atoms", UNSUPPORTED, () -> x.walk());
            x.assume(2, 0, 0, true);
            refused("assumptions do not help", UNSUPPORTED, () -> x.walk());
            refused("nothing is kept", STATE, () -> x.best());
            rule(x, 2);
            due("a sure atom is not open", x.walk(), 64);
            AnswerFold all = with(2, 2);
            int c = all.addChoice(0, 0, 1, -1);
            all.addHead(c, 0, X, Y);
            all.addHead(c, 1, X, Y);
            refused("128 open atoms", UNSUPPORTED, () -> all.walk());
        });
        holds(19, "more than 300 instances of all rules that are kept", () -> {
            AnswerFold x = sixPairs();
            fill(x, 294);
            due("300", x.walk(), 64);
            int more = x.addWeak(0, 1, 1);
            refused("301", UNSUPPORTED, () -> x.walk());
            refused("nothing is kept", STATE, () -> x.best());
            x.addTest(more, '<', 0, 0);
            due("those that are not kept do not count", x.walk(), 64);
            x.addDisjunction(2);
            due("nor those of parts that are not grounded", x.walk(), 64);
            AnswerFold sure = with(2);
            sure.addHead(sure.addDisjunction(0), 0, X, Y);
            int many = sure.addWeak(0, 1, 1);
            sure.addTest(many, '!', X, Y);
            sure.addTest(many, '!', Y, Z);
            refused("without open atoms too", UNSUPPORTED, () -> sure.walk());
        });
        holds(19, "or more than 64 answers that fit", () -> {
            AnswerFold x = chooser(7, 0, 7);
            refused("128", UNSUPPORTED, () -> x.walk());
            refused("nothing is kept", STATE, () -> x.size(0));
            refused("again", UNSUPPORTED, () -> x.walk());
            x.assume(1, 6, 0, true);
            due("64 that fit", x.walk(), 64);
            due("the last one", x.size(63), 8);
            x.dropAssumptions();
            refused("128 again", UNSUPPORTED, () -> x.walk());
            AnswerFold y = chooser(6, 0, 6);
            choose(y, 0, 1, 2);
            for (int v = 0; v < 6; v++) {
                int r = y.addDisjunction(0);
                y.addAtom(r, true, 2, 0, 0);
                y.addAtom(r, true, 1, v, 0);
            }
            due("65 by all", y.walkByAll(), 65);
            refused("65", UNSUPPORTED, () -> y.walk());
            y.assume(2, 0, 0, false);
            due("64", y.walk(), 64);
            AnswerFold weak = chooser(7, 0, 7);
            weak(weak, 1, 1, 0);
            refused("those that are not the best ones count", UNSUPPORTED, () -> weak.walk());
        });
    }

    private static void walkByAll() {
        holds(20, "Returns the number of answers, found by trying all sets of possible atoms that have all sure ones", () -> {
            AnswerFold[] programs = {two(), chooser(7, 2, 5), chooser(3, 0, 1), chooser(2, 3, 3), new AnswerFold()};
            int[] due = {2, 21 + 35 + 35 + 21, 4, 0, 1};
            for (int i = 0; i < programs.length; i++) {
                due("program " + i, programs[i].walkByAll(), due[i]);
            }
            AnswerFold x = with(0, 0, 0);
            either(x, 0, 1);
            rule(x, 0, 1);
            rule(x, 2, 1);
            due("against sets with fewer atoms", x.walkByAll(), 1);
            rule(x, 1, 0);
            due("all three, as none does without the others", x.walkByAll(), 1);
        });
        holds(20, "the walk stays.", () -> {
            AnswerFold x = twoWalked();
            x.walkByAll();
            due("kept", x.has(1, 1, 0, 0), true);
            due("so many", x.best(), 2);
            AnswerFold y = two();
            y.walkByAll();
            refused("none is made", STATE, () -> y.best());
            AnswerFold big = sixPairs();
            big.walk();
            refused("refused", UNSUPPORTED, () -> big.walkByAll());
            due("kept all the same", big.best(), 64);
        });
        holds(20, "Returns the number of answers that fit the assumptions.", () -> {
            AnswerFold x = chooser(7, 0, 7);
            due("128, which no walk could keep", x.walkByAll(), 128);
            x.assume(1, 0, 0, true);
            due("one in", x.walkByAll(), 64);
            x.assume(1, 1, 0, false);
            due("and one out", x.walkByAll(), 32);
            x.assume(0, 1, 0, false);
            due("a sure one out", x.walkByAll(), 0);
            x.assume(0, 1, 0, true);
            due("a sure one in", x.walkByAll(), 32);
            x.assume(2, 0, 0, true);
            due("one in that is not possible", x.walkByAll(), 0);
        });
        holds(20, "Throws `UnsupportedOperationException` if there are more than 7 open atoms", () -> {
            AnswerFold x = chooser(7, 0, 1);
            due("7", x.walkByAll(), 8);
            choose(x, 0, 1, 2);
            refused("8", UNSUPPORTED, () -> x.walkByAll());
            x.assume(2, 0, 0, false);
            refused("assumptions do not help", UNSUPPORTED, () -> x.walkByAll());
            AnswerFold y = chooser(6, 0, 1);
            y.addExternal(2, 3, 0);
            y.setExternal(0, 'u');
            due("7 with a free external", y.walkByAll(), 14);
            y.setExternal(y.addExternal(2, 4, 0), 'u');
            refused("8 with two", UNSUPPORTED, () -> y.walkByAll());
        });
        holds(20, "or more than 300 instances of all rules that are kept", () -> {
            AnswerFold x = with(0, 0);
            either(x, 0, 1);
            fill(x, 299);
            due("300", x.walkByAll(), 2);
            int more = x.addWeak(0, 1, 1);
            refused("301", UNSUPPORTED, () -> x.walkByAll());
            x.addTest(more, '=', 0, 1);
            due("300", x.walkByAll(), 2);
        });
    }

    private static void has() {
        holds(21, "Returns whether an atom is in an answer.", () -> {
            AnswerFold x = twoWalked();
            due("in the first one", x.has(0, 0, 0, 0), true);
            due("not in the second one", x.has(1, 0, 0, 0), false);
            due("a sure one", x.has(0, 2, 3, 5) && x.has(1, 2, 3, 5), true);
            due("one that is not possible", x.has(0, 2, 5, 3) || x.has(1, 2, 5, 3), false);
        });
        holds(21, "`answer`: the number of the answer, from 0", () -> {
            AnswerFold x = chooser(6, 0, 6);
            x.walk();
            for (int i = 0; i < 64; i++) {
                for (int v = 0; v < 6; v++) {
                    due("the first atom that differs decides", x.has(i, 1, v, 0), (i >> (5 - v) & 1) == 0);
                }
            }
        });
        holds(21, "`predicate`: the predicate", () -> {
            AnswerFold x = twoWalked();
            due("the predicate 0", x.has(1, 0, 0, 0), false);
            due("the predicate 1", x.has(1, 1, 0, 0), true);
            due("the predicate 2", x.has(1, 2, 3, 5), true);
            due("the predicate 3", x.has(1, 3, 3, 0), false);
        });
        holds(21, "`first`: the value of the first place, 0 to 7, of no meaning if there is none", () -> {
            AnswerFold x = twoWalked();
            takenEach("value", v -> x.has(0, 3, v, 0), 0, 1, 6, 7);
            for (int v : new int[] {MIN, -1, 8, MAX}) {
                due("no place", x.has(0, 0, v, v), true);
            }
        });
        holds(21, "`second`: that of the second place", () -> {
            AnswerFold x = twoWalked();
            for (int v = 0; v < 8; v++) {
                due("value " + v, x.has(0, 2, 3, v), v == 5);
            }
            takenEach("no second place", v -> x.has(0, 3, 1, v), MIN, -1, 8, MAX);
        });
        holds(21, "Returns whether it is.", () -> {
            AnswerFold x = with(0, 0);
            x.addExternal(0, 0, 0);
            x.setExternal(0, 'u');
            rule(x, 1, -1);
            x.walk();
            due("with the external", x.has(0, 0, 0, 0) && !x.has(0, 1, 0, 0), true);
            due("without it", !x.has(1, 0, 0, 0) && x.has(1, 1, 0, 0), true);
        });
        holds(21, "Throws `IllegalStateException` if there is no walk that is kept", () -> {
            AnswerFold x = two();
            refused("never walked", STATE, () -> x.has(0, 0, 0, 0));
            refused("before anything else", STATE, () -> x.has(-1, 9, 9, 9));
            x.walk();
            x.addPredicate(0);
            refused("not kept", STATE, () -> x.has(0, 0, 0, 0));
        });
        holds(21, "Throws `IndexOutOfBoundsException` if there is no such answer or predicate", () -> {
            AnswerFold x = twoWalked();
            refusedEach("answer", INDEX, a -> x.has(a, 0, 0, 0), NO_ANSWERS_OF_TWO);
            refusedEach("predicate", INDEX, p -> x.has(0, p, 0, 0), MIN, -1, 4, 6, MAX);
            refusedEach("answer, no value", INDEX, a -> x.has(a, 2, 8, 8), -1, 2);
            refusedEach("answer of none", INDEX, a -> noneWalked().has(a, 0, 0, 0), -1, 0, 1);
        });
        holds(21, "Throws `IllegalArgumentException` if a value is out of range", () -> {
            AnswerFold x = twoWalked();
            refusedEach("first value", ARGUMENT, v -> x.has(0, 2, v, 0), MIN, -1, 8, MAX);
            refusedEach("second value", ARGUMENT, v -> x.has(0, 2, 0, v), MIN, -1, 8, MAX);
            refusedEach("the only value", ARGUMENT, v -> x.has(1, 3, v, 0), MIN, -1, 8, MAX);
        });
    }

    private static void size() {
        holds(22, "Returns the number of atoms of an answer.", () -> {
            AnswerFold x = chooser(3, 0, 3);
            x.walk();
            int[] due = {6, 5, 5, 4, 5, 4, 4, 3};
            for (int i = 0; i < 8; i++) {
                due("answer " + i, x.size(i), due[i]);
            }
        });
        holds(22, "`answer`: the number of the answer", () -> {
            AnswerFold x = sixPairs();
            x.walk();
            due("the first one", x.size(0), 6);
            due("the last one", x.size(63), 6);
        });
        holds(22, "Returns the number of atoms.", () -> {
            AnswerFold empty = new AnswerFold();
            empty.walk();
            due("none", empty.size(0), 0);
            AnswerFold full = with(2, 2, 2, 2, 2, 2);
            for (int p = 0; p < 6; p += 2) {
                full.addExternal(p, 7, 7);
                full.setExternal(p / 2, 't');
            }
            full.addHead(full.addDisjunction(0), 1, X, Y);
            full.addHead(full.addDisjunction(0), 3, X, Y);
            due("sure ones of all kinds", full.walk() * full.size(0), 131);
        });
        holds(22, "Throws `IllegalStateException` if there is no walk that is kept", () -> {
            AnswerFold x = two();
            refused("never walked", STATE, () -> x.size(0));
            refused("before anything else", STATE, () -> x.size(-1));
            x.walk();
            x.dropAssumptions();
            refused("not kept", STATE, () -> x.size(0));
        });
        holds(22, "Throws `IndexOutOfBoundsException` if there is no such answer", () -> {
            AnswerFold x = twoWalked();
            refusedEach("answer", INDEX, a -> x.size(a), NO_ANSWERS_OF_TWO);
            refusedEach("answer of none", INDEX, a -> noneWalked().size(a), -1, 0, 1);
        });
    }

    private static void cost() {
        holds(23, "Returns the cost of an answer.", () -> {
            AnswerFold x = with(0, 1);
            choose(x, 0, 1, 0);
            weak(x, 7, 2, 3);
            int w = x.addWeak(0, -4, 2);
            x.addAtom(w, true, 0, 0, 0);
            int v = x.addWeak(0, 9, 2);
            x.addAtom(v, false, 0, 0, 0);
            x.walk();
            due("with it", x.cost(0, 2), -4L);
            due("without it", x.cost(1, 2), 9L);
        });
        holds(23, "`answer`: the number of the answer", () -> {
            AnswerFold x = chooser(6, 1, 1);
            for (int v = 0; v < 6; v++) {
                weak(x, 60 - 10 * v, 1, v);
            }
            x.walk();
            for (int i = 0; i < 6; i++) {
                due("from the least one on", x.cost(i, 1), 10L + 10 * i);
            }
        });
        holds(23, "`level`: the level, 1 to 3", () -> {
            AnswerFold x = two();
            for (int level = 1; level <= 3; level++) {
                x.addWeak(0, level, level);
                x.addWeak(0, 20 * level, level);
            }
            x.walk();
            for (int level = 1; level <= 3; level++) {
                due("level " + level, x.cost(1, level), 21L * level);
            }
        });
        holds(23, "Returns the cost.", () -> {
            AnswerFold x = with(2);
            x.addHead(x.addDisjunction(0), 0, X, Y);
            for (int sign = -1; sign <= 1; sign += 2) {
                int w = x.addWeak(0, 99 * sign, 2 + sign);
                x.addTest(w, '<', Y, Z);
                x.addTest(w, '<', X, 4);
            }
            due("kept", x.instances(1), 4 * 28);
            x.walk();
            due("a great one", x.cost(0, 3), 99L * 4 * 28);
            due("a small one", x.cost(0, 1), -99L * 4 * 28);
            due("none", x.cost(0, 2), 0L);
        });
        holds(23, "Throws `IllegalStateException` if there is no walk that is kept", () -> {
            AnswerFold x = two();
            refused("never walked", STATE, () -> x.cost(0, 1));
            refused("before anything else", STATE, () -> x.cost(-1, 0));
            x.walk();
            x.addWeak(0, 1, 1);
            refused("not kept", STATE, () -> x.cost(0, 1));
        });
        holds(23, "Throws `IndexOutOfBoundsException` if there is no such answer", () -> {
            AnswerFold x = twoWalked();
            refusedEach("answer", INDEX, a -> x.cost(a, 1), NO_ANSWERS_OF_TWO);
            refusedEach("answer, no level", INDEX, a -> x.cost(a, 4), NO_ANSWERS_OF_TWO);
            refusedEach("answer of none", INDEX, a -> noneWalked().cost(a, 1), -1, 0, 1);
        });
        holds(23, "Throws `IllegalArgumentException` if there is no such level", () -> {
            AnswerFold x = twoWalked();
            refusedEach("level", ARGUMENT, l -> x.cost(0, l), MIN, -1, 0, 4, MAX);
        });
    }

    private static void best() {
        holds(24, "Returns how many answers have the same costs at all levels as the first one.", () -> {
            AnswerFold x = chooser(4, 1, 1);
            x.walk();
            due("all", x.best(), 4);
            weak(x, 1, 1, 0);
            x.walk();
            due("but one at the level 1", x.best(), 3);
            weak(x, 1, 2, 1);
            x.walk();
            due("but one at the level 2", x.best(), 2);
            weak(x, 1, 3, 2);
            x.walk();
            due("but one at the level 3", x.best(), 1);
            weak(x, 1, 1, 3);
            weak(x, 1, 2, 0);
            weak(x, -1, 2, 1);
            x.walk();
            due("the same sum over levels is not the same", x.best(), 1);
            AnswerFold first = chooser(4, 1, 1);
            for (int level = 1; level <= 3; level++) {
                weak(first, -1, level, 2);
                first.walk();
                due("the first one alone, the others have the same", first.best(), 1);
            }
        });
        holds(24, "Returns the number of answers, 0 if there are none.", () -> {
            due("none", noneWalked().best(), 0);
            due("two", twoWalked().best(), 2);
            AnswerFold x = sixPairs();
            x.walk();
            due("64", x.best(), 64);
        });
        holds(24, "Throws `IllegalStateException` if there is no walk that is kept", () -> {
            AnswerFold x = two();
            refused("never walked", STATE, () -> x.best());
            x.walk();
            x.assume(0, 0, 0, true);
            refused("not kept", STATE, () -> x.best());
        });
    }

    private static void projected() {
        holds(25, "Returns how many different sets of atoms of a predicate the answers have.", () -> {
            AnswerFold x = with(1, 1, 0, 2);
            for (int v = 0; v < 3; v++) {
                int c = x.addChoice(0, 0, 1, -1);
                x.addHead(c, 0, v, 0);
                int d = x.addDisjunction(0);
                x.addHead(d, 1, 0, 0);
                x.addAtom(d, true, 0, v, 0);
            }
            int r = rule(x, 2);
            x.addAtom(r, true, 0, 0, 0);
            fact(x, 3, 1, 1);
            due("eight", x.walk(), 8);
            due("all differ", x.projected(0), 8);
            due("with any and with none", x.projected(1), 2);
            due("with the first one and without it", x.projected(2), 2);
            due("one set, of a sure atom", x.projected(3), 1);
            x.addPredicate(0);
            x.walk();
            due("one empty set", x.projected(4), 1);
        });
        holds(25, "`predicate`: the predicate", () -> {
            AnswerFold x = with(0, 0, 0, 0, 0, 0);
            choose(x, 0, 2, 5, 0);
            x.walk();
            int[] due = {2, 1, 1, 1, 1, 2};
            for (int p = 0; p < 6; p++) {
                due("predicate " + p, x.projected(p), due[p]);
            }
        });
        holds(25, "Returns the number of sets.", () -> {
            due("of no answers", noneWalked().projected(0), 0);
            AnswerFold x = sixPairs();
            x.walk();
            due("64", x.projected(1), 64);
            due("one", x.projected(2), 1);
        });
        holds(25, "Throws `IllegalStateException` if there is no walk that is kept", () -> {
            AnswerFold x = two();
            refused("never walked", STATE, () -> x.projected(0));
            refused("before anything else", STATE, () -> x.projected(-1));
            x.walk();
            x.addExternal(3, 0, 0);
            refused("not kept", STATE, () -> x.projected(0));
        });
        holds(25, "Throws `IndexOutOfBoundsException` if there is no such predicate", () -> {
            refusedEach("predicate", INDEX, p -> twoWalked().projected(p), MIN, -1, 4, 6, MAX);
            refusedEach("predicate, no answers", INDEX, p -> noneWalked().projected(p), -1, 4);
        });
    }

    private static void atomHolds() {
        holds(26, "Returns in how many answers an atom is.", () -> {
            AnswerFold x = with(0, 0, 0, 0, 0);
            choose(x, 1, 2, 0, 1);
            choose(x, 1, 1, 2);
            choose(x, 0, 0, 3);
            rule(x, 4);
            due("three", x.walk(), 3);
            due("in two", x.holds(0, 0, 0), 's');
            due("in all, but open", x.holds(2, 0, 0), 'a');
            due("in none, but open", x.holds(3, 0, 0), 'n');
            due("sure", x.holds(4, 0, 0), 'a');
        });
        holds(26, "`predicate`: the predicate", () -> {
            AnswerFold x = twoWalked();
            due("each", "" + x.holds(0, 0, 0) + x.holds(1, 0, 0) + x.holds(2, 3, 5) + x.holds(3, 3, 0), "ssan");
        });
        holds(26, "`first`: the value of the first place, 0 to 7, of no meaning if there is none", () -> {
            AnswerFold x = chooser(7, 1, 1);
            x.addPredicate(0);
            rule(x, 3);
            x.walk();
            for (int v = 0; v < 8; v++) {
                due("value " + v, x.holds(1, v, 9), v < 7 ? 's' : 'n');
            }
            for (int v : new int[] {MIN, -1, 8, MAX}) {
                due("no place", x.holds(3, v, v), 'a');
            }
        });
        holds(26, "`second`: that of the second place", () -> {
            AnswerFold x = twoWalked();
            for (int v = 0; v < 8; v++) {
                due("value " + v, x.holds(2, 3, v), v == 5 ? 'a' : 'n');
            }
            takenEach("no second place", v -> x.holds(3, 1, v), MIN, -1, 8, MAX);
        });
        holds(26, "Returns 'n' in none, 's' in some, 'a' in all; 'a' if there are no answers.", () -> {
            AnswerFold x = twoWalked();
            due("none", x.holds(2, 3, 4), 'n');
            due("some", x.holds(1, 0, 0), 's');
            due("all", x.holds(2, 3, 5), 'a');
            AnswerFold y = noneWalked();
            due("no answers, an open one", y.holds(0, 0, 0), 'a');
            due("no answers, a sure one", y.holds(2, 3, 5), 'a');
            due("no answers, one that is not possible", y.holds(3, 0, 0), 'a');
            AnswerFold one = chooser(1, 0, 0);
            one.walk();
            due("none of one", one.holds(1, 0, 0), 'n');
            due("all of one", one.holds(0, 0, 0), 'a');
        });
        holds(26, "Throws `IllegalStateException` if there is no walk that is kept", () -> {
            AnswerFold x = two();
            refused("never walked", STATE, () -> x.holds(0, 0, 0));
            refused("before anything else", STATE, () -> x.holds(9, 9, 9));
            x.walk();
            x.ground(1, 1);
            refused("not kept", STATE, () -> x.holds(0, 0, 0));
        });
        holds(26, "Throws `IndexOutOfBoundsException` if there is no such predicate", () -> {
            refusedEach("predicate", INDEX, p -> twoWalked().holds(p, 0, 0), MIN, -1, 4, 6, MAX);
            refusedEach("predicate, no value", INDEX, p -> twoWalked().holds(p, 8, 8), -1, 4);
            refusedEach("predicate, no answers", INDEX, p -> noneWalked().holds(p, 0, 0), -1, 4);
        });
        holds(26, "Throws `IllegalArgumentException` if a value is out of range", () -> {
            for (AnswerFold x : new AnswerFold[] {twoWalked(), noneWalked()}) {
                refusedEach("first value", ARGUMENT, v -> x.holds(2, v, 0), MIN, -1, 8, MAX);
                refusedEach("second value", ARGUMENT, v -> x.holds(2, 0, v), MIN, -1, 8, MAX);
                refusedEach("the only value", ARGUMENT, v -> x.holds(3, v, 0), MIN, -1, 8, MAX);
            }
        });
    }

    private static final String REASON = "Returns the reason for which an atom is in an answer";

    private static void reasonsAmongRules() {
        holds(27, REASON, () -> {
            AnswerFold x = with(0, 0, 0, 1);
            rule(x, 0, 2);
            either(x, 0, 1);
            rule(x, 0);
            rule(x, 0);
            choose(x, 0, 2, 0);
            x.walk();
            due("the lowest rule whose body it holds: a body that does not hold, then two heads", x.reason(0, 0, 0, 0), 1);

            AnswerFold both = with(0, 0);
            int either = either(both, 0, 1);
            int one = rule(both, 1);
            int other = rule(both, 0);
            both.walk();
            due("not the only head in it", both.reason(0, 0, 0, 0), other);
            due("not the only head in it", both.reason(0, 1, 0, 0), one);
            due("that rule is lower", either < one, true);

            AnswerFold picked = with(0, 0);
            int c = choose(picked, 0, 2, 0, 1);
            rule(picked, 0);
            rule(picked, 1, 0);
            picked.walk();
            due("in a choice, an element, whatever else is in it", picked.reason(0, 0, 0, 0), c);
            due("both", picked.reason(0, 1, 0, 0), c);

            AnswerFold instances = with(1, 1);
            int up = instances.addDisjunction(0);
            instances.addHead(up, 0, X_PLUS_ONE, 0);
            instances.addHead(up, 1, X, 0);
            instances.addTest(up, '<', X, 2);
            int facts = instances.addDisjunction(0);
            instances.addHead(facts, 0, X, 0);
            instances.addTest(facts, '<', X, 2);
            int last = instances.addDisjunction(0);
            instances.addHead(last, 1, 0, 0);
            due("answers", answers(instances, 1, 1), "00 01 02 10 | 00 01 10 11");
            due("an instance with another head in it", instances.reason(0, 0, 1, 0), facts);
            due("one without", instances.reason(0, 0, 2, 0), up);
            due("the other head", instances.reason(1, 1, 1, 0), up);
            due("not the only one", instances.reason(0, 1, 0, 0), last);

            AnswerFold span = with(1, 2);
            fact(span, 0, 6, 0);
            int s = span.addChoice(0, 1, 1, 0);
            span.addHead(s, 1, X, Z);
            span.addTest(s, '=', X, 3);
            span.walk();
            due("an element of a span", span.reason(0, 1, 3, 6), s);

            AnswerFold counts = with(0, 0);
            int few = rule(counts, 0);
            counts.addCount(few, 'g', 0, 2);
            int many = rule(counts, 0);
            counts.addCount(many, 'l', 1, 0);
            counts.walk();
            due("with its counts", counts.reason(0, 0, 0, 0), many);

            AnswerFold denied = with(0, 0, 0);
            rule(denied, 1);
            choose(denied, 0, 1, 2);
            rule(denied, 0, 1, -3);
            int test = rule(denied, 0, 1);
            denied.addTest(test, '<', X, 0);
            int held = rule(denied, 0, 1);
            denied.walk();
            due("not a body with an atom to be false that is in it", denied.reason(0, 0, 0, 0), held);
            due("a body with one that is not in it", denied.reason(1, 0, 0, 0), 2);
        });
        holds(27, REASON, () -> {
            AnswerFold x = with(0, 0, 0);
            x.addExternal(2, 0, 0);
            x.addExternal(1, 0, 0);
            x.addExternal(0, 0, 0);
            x.setExternal(0, 't');
            x.setExternal(2, 'u');
            x.walk();
            due("100 and a true one", x.reason(0, 2, 0, 0), 100);
            due("100 and a free one", x.reason(0, 0, 0, 0), 102);
            int r = rule(x, 2, 0);
            x.walk();
            due("where there is a rule, not the external", x.reason(0, 2, 0, 0), r);
            due("where there is none, the external", x.reason(1, 2, 0, 0), 100);
            x.setExternal(0, 'f');
            x.walk();
            due("a false one by a rule", x.reason(0, 2, 0, 0), r);
            x.setExternal(0, 'r');
            x.walk();
            due("a released one by a rule", x.reason(0, 2, 0, 0), r);
        });
    }

    private static void reason() {
        holds(27, "`answer`: the number of the answer", () -> {
            AnswerFold x = with(0, 0);
            choose(x, 0, 1, 0);
            int with = rule(x, 1, 0);
            int without = rule(x, 1, -1);
            x.walk();
            due("in the first one", x.reason(0, 1, 0, 0), with);
            due("in the second one", x.reason(1, 1, 0, 0), without);
        });
        holds(27, "`predicate`: the predicate", () -> {
            AnswerFold x = with(0, 0, 0, 0, 0, 0);
            for (int p = 5; p >= 0; p--) {
                rule(x, p);
            }
            x.walk();
            for (int p = 0; p < 6; p++) {
                due("its rule", x.reason(0, p, 0, 0), 5 - p);
            }
        });
        holds(27, "`first`: the value of the first place, 0 to 7, of no meaning if there is none", () -> {
            AnswerFold x = with(1, 0);
            for (int v = 7; v >= 0; v--) {
                fact(x, 0, v, 0);
            }
            rule(x, 1);
            x.walk();
            for (int v = 0; v < 8; v++) {
                due("its rule", x.reason(0, 0, v, v + 8), 7 - v);
            }
            for (int v : new int[] {MIN, -1, 8, MAX}) {
                due("no place", x.reason(0, 1, v, v), 8);
            }
        });
        holds(27, "`second`: that of the second place", () -> {
            AnswerFold x = with(2, 1);
            for (int v = 7; v >= 0; v--) {
                fact(x, 0, 4, v);
            }
            fact(x, 1, 4, 0);
            x.walk();
            for (int v = 0; v < 8; v++) {
                due("its rule", x.reason(0, 0, 4, v), 7 - v);
            }
            for (int v : new int[] {MIN, -1, 8, MAX}) {
                due("no second place", x.reason(0, 1, 4, v), 8);
            }
        });
        holds(27, "Returns the number.", () -> {
            AnswerFold x = with(1);
            for (int i = 0; i < 6; i++) {
                x.setExternal(x.addExternal(0, i, 0), i % 2 == 0 ? 't' : 'u');
            }
            for (int i = 0; i < 19; i++) {
                x.addWeak(0, 1, 1);
            }
            int last = fact(x, 0, 7, 0);
            x.walk();
            due("the last rule", x.reason(0, 0, 7, 0), last);
            due("is the rule 19", last, 19);
            for (int i = 0; i < 6; i++) {
                due("external " + i, x.reason(0, 0, i, 0), 100 + i);
            }
        });
        holds(27, "Throws `IllegalStateException` if there is no walk that is kept", () -> {
            AnswerFold x = two();
            refused("never walked", STATE, () -> x.reason(0, 0, 0, 0));
            refused("before anything else", STATE, () -> x.reason(-1, 9, 9, 9));
            x.walk();
            x.addDisjunction(1);
            refused("not kept", STATE, () -> x.reason(0, 0, 0, 0));
        });
        holds(27, "Throws `IndexOutOfBoundsException` if there is no such answer or predicate", () -> {
            AnswerFold x = twoWalked();
            refusedEach("answer", INDEX, a -> x.reason(a, 0, 0, 0), NO_ANSWERS_OF_TWO);
            refusedEach("predicate", INDEX, p -> x.reason(0, p, 0, 0), MIN, -1, 4, 6, MAX);
            refusedEach("answer, no value", INDEX, a -> x.reason(a, 2, 8, 8), -1, 2);
            refusedEach("answer of none", INDEX, a -> noneWalked().reason(a, 0, 0, 0), -1, 0, 1);
        });
        holds(27, "Throws `IllegalArgumentException` if a value is out of range", () -> {
            AnswerFold x = twoWalked();
            refusedEach("first value", ARGUMENT, v -> x.reason(0, 2, v, 0), MIN, -1, 8, MAX);
            refusedEach("second value", ARGUMENT, v -> x.reason(0, 2, 0, v), MIN, -1, 8, MAX);
            refusedEach("the only value", ARGUMENT, v -> x.reason(1, 3, v, 0), MIN, -1, 8, MAX);
        });
        holds(27, "Throws `NoSuchElementException` if it is not in the answer", () -> {
            AnswerFold x = twoWalked();
            refused("in another one", NO_ELEMENT, () -> x.reason(0, 1, 0, 0));
            refused("in none", NO_ELEMENT, () -> x.reason(0, 2, 5, 3));
            AnswerFold y = with(0);
            y.addExternal(0, 0, 0);
            y.walk();
            refused("a false external", NO_ELEMENT, () -> y.reason(0, 0, 0, 0));
            y.setExternal(0, 'u');
            y.walk();
            refused("a free one", NO_ELEMENT, () -> y.reason(1, 0, 0, 0));
            y.setExternal(0, 'r');
            y.walk();
            refused("a released one", NO_ELEMENT, () -> y.reason(0, 0, 0, 0));
        });
    }
}
