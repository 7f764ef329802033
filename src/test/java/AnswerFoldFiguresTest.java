import java.io.IOException;

/** Promises 28 to 30: figures. */
public final class AnswerFoldFiguresTest extends SentenceTest {
    public static void main(String[] args) throws IOException {
        read(28, 30);
        share();
        commonest();
        meanSize();
        finish();
    }

    private static AnswerFold walked(AnswerFold x) {
        x.walk();
        return x;
    }

    /** Three answers, with one of three atoms of the predicate 1 each, and no atom of the predicate 2. */
    private static AnswerFold three() {
        return chooser(3, 1, 1);
    }

    private static AnswerFold none() {
        return chooser(3, 4, 4);
    }

    private static void share() {
        holds(28, "Returns the share of the answers in which an atom is.", () -> {
            AnswerFold x = walked(chooser(2, 1, 2));
            due("two of three", x.share(1, 0, 0), 2f / 3f);
            due("two of three", x.share(1, 1, 0), 2f / 3f);
            due("all", x.share(0, 1, 0), 1f);
            due("none", x.share(2, 1, 0), 0f);
        });
        holds(28, "`predicate`: the predicate", () -> {
            AnswerFold x = walked(three());
            float[] due = {1f, 1f / 3f, 0f};
            for (int p = 0; p < 3; p++) {
                due("predicate " + p, x.share(p, 2, 0), due[p]);
            }
        });
        holds(28, "`first`: the value of the first place, 0 to 7, of no meaning if there is none", () -> {
            AnswerFold x = walked(chooser(7, 1, 1));
            for (int v = 0; v < 8; v++) {
                due("value " + v, x.share(1, v, 9), v < 7 ? 1f / 7f : 0f);
            }
            AnswerFold y = with(0);
            rule(y, 0);
            y.walk();
            for (int v : new int[] {MIN, -1, 8, MAX}) {
                due("no place", y.share(0, v, v), 1f);
            }
        });
        holds(28, "`second`: that of the second place", () -> {
            AnswerFold x = with(2, 1);
            fact(x, 0, 6, 7);
            fact(x, 1, 6, 0);
            x.walk();
            for (int v = 0; v < 8; v++) {
                due("value " + v, x.share(0, 6, v), v == 7 ? 1f : 0f);
            }
            for (int v : new int[] {MIN, -1, 8, MAX}) {
                due("no second place", x.share(1, 6, v), 1f);
            }
        });
        holds(28, "Returns the number of these answers divided by that of all answers, both converted to float.", () -> {
            for (int n = 1; n <= 8; n++) {
                AnswerFold x = walked(chooser(n, 1, 1));
                due("one of " + n, x.share(1, n - 1, 0), 1f / (float) n);
                AnswerFold y = walked(chooser(n, n - 1, n - 1));
                due("all but one of " + n, y.share(1, 0, 0), (float) (n - 1) / (float) n);
            }
            due("32 of 64", walked(chooser(6, 0, 6)).share(1, 5, 0), 0.5f);
        });
        holds(28, "Throws `IllegalStateException` if there is no walk that is kept", () -> {
            refused("never walked", STATE, () -> three().share(0, 0, 0));
            refused("before anything else", STATE, () -> three().share(9, 9, 9));
            AnswerFold x = walked(none());
            x.dropAssumptions();
            refused("not kept", STATE, () -> x.share(0, 0, 0));
        });
        holds(28, "Throws `IndexOutOfBoundsException` if there is no such predicate", () -> {
            refusedEach("predicate", INDEX, p -> walked(three()).share(p, 0, 0), MIN, -1, 3, 6, MAX);
            refusedEach("predicate, no value", INDEX, p -> walked(three()).share(p, 8, 8), -1, 3);
            refusedEach("predicate, no answers", INDEX, p -> walked(none()).share(p, 0, 0), -1, 3);
        });
        holds(28, "Throws `IllegalArgumentException` if a value is out of range", () -> {
            refusedEach("value", ARGUMENT, v -> walked(three()).share(1, v, 0), MIN, -1, 8, MAX);
            refusedEach("value, no answers", ARGUMENT, v -> walked(none()).share(1, v, 0), MIN, -1, 8, MAX);
            AnswerFold x = walked(with(2));
            refusedEach("second value", ARGUMENT, v -> x.share(0, 0, v), MIN, -1, 8, MAX);
        });
        holds(28, "Throws `ArithmeticException` if there are no answers", () -> {
            AnswerFold x = walked(none());
            refused("an open atom", ARITHMETIC, () -> x.share(1, 0, 0));
            refused("a sure one", ARITHMETIC, () -> x.share(0, 0, 0));
            refused("one that is not possible", ARITHMETIC, () -> x.share(2, 0, 0));
        });
    }

    private static void commonest() {
        holds(29, "Returns the open atom with the greatest share, of several the first one.", () -> {
            AnswerFold x = three();
            x.walk();
            due("the first one of three", x.commonest(), 100);
            x.assume(1, 0, 0, false);
            x.walk();
            due("the first one of two", x.commonest(), 110);
            x.assume(1, 1, 0, false);
            x.walk();
            due("the only one", x.commonest(), 120);
            AnswerFold later = with(0, 0, 0);
            choose(later, 1, 1, 0, 1);
            choose(later, 1, 1, 2);
            due("two", later.walk(), 2);
            due("a later one with a greater share", later.commonest(), 200);
            rule(later, 2);
            later.walk();
            due("a sure one is not open", later.commonest(), 0);
            AnswerFold never = with(0, 0);
            choose(never, 0, 0, 0, 1);
            never.walk();
            due("the first one, though all are in none", never.commonest(), 0);
        });
        holds(29, "Returns 100 times the predicate plus 10 times the first value plus the second one", () -> {
            for (int p = 0; p < 6; p++) {
                AnswerFold x = with(0, 1, 2, 2, 1, 0);
                int c = x.addChoice(0, 1, 1, -1);
                x.addHead(c, p, 7 - p, 5);
                x.walk();
                int places = p < 3 ? p : 5 - p;
                due("predicate " + p, x.commonest(), 100 * p + (places > 0 ? 10 * (7 - p) : 0) + (places > 1 ? 5 : 0));
            }
            AnswerFold last = with(2, 2, 2, 2, 2, 2);
            int c = last.addChoice(0, 1, 1, -1);
            last.addHead(c, 5, 7, 7);
            last.walk();
            due("the last atom", last.commonest(), 577);
        });
        holds(29, "Throws `IllegalStateException` if there is no walk that is kept", () -> {
            refused("never walked", STATE, () -> three().commonest());
            refused("never walked, no open atom", STATE, () -> new AnswerFold().commonest());
            AnswerFold x = walked(three());
            x.addExternal(2, 0, 0);
            refused("not kept", STATE, () -> x.commonest());
        });
        holds(29, "Throws `NoSuchElementException` if there is no open atom or no answer", () -> {
            refused("neither predicates nor atoms", NO_ELEMENT, () -> walked(new AnswerFold()).commonest());
            AnswerFold sure = with(0);
            rule(sure, 0);
            refused("a sure atom", NO_ELEMENT, () -> walked(sure).commonest());
            refused("no answer, with open atoms", NO_ELEMENT, () -> walked(none()).commonest());
            AnswerFold neither = with(0);
            rule(neither, -1);
            refused("no answer, without open atoms", NO_ELEMENT, () -> walked(neither).commonest());
        });
    }

    private static void meanSize() {
        holds(30, "Returns the mean number of atoms of the answers.", () -> {
            due("of one", walked(chooser(3, 3, 3)).meanSize(), 6.0);
            due("of six", walked(chooser(3, 1, 2)).meanSize(), 4.5);
            due("of 64", walked(chooser(6, 0, 6)).meanSize(), 9.0);
            due("of the empty one", walked(new AnswerFold()).meanSize(), 0.0);
        });
        holds(30, "Returns the sum of their numbers divided by the number of answers, both converted to double.", () -> {
            due("four in three", walked(oneOrTwo()).meanSize(), 4.0 / 3.0);
            AnswerFold x = chooser(3, 0, 2);
            due("30 in seven", walked(x).meanSize(), (21.0 + 3.0 + 6.0) / 7.0);
        });
        holds(30, "Throws `IllegalStateException` if there is no walk that is kept", () -> {
            refused("never walked", STATE, () -> three().meanSize());
            AnswerFold x = walked(none());
            x.assume(0, 0, 0, true);
            refused("not kept", STATE, () -> x.meanSize());
        });
        holds(30, "Throws `ArithmeticException` if there are no answers", () ->
            refused("none", ARITHMETIC, () -> walked(none()).meanSize()));
    }

    /** One or both of two atoms. */
    private static AnswerFold oneOrTwo() {
        AnswerFold x = with(0, 0);
        choose(x, 1, 2, 0, 1);
        return x;
    }
}
