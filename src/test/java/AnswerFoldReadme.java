import java.io.IOException;
import java.nio.file.Files;
import java.nio.file.Path;

/** Runs the examples of README.md: their lines stand below as they stand there, and answer what is said there. */
public final class AnswerFoldReadme {
    private static int wrong = 0;

    private static void due(String what, Object got, Object want) {
        if (!want.equals(got)) {
            wrong++;
            System.out.println(what + " is " + got + ", due is " + want);
        }
    }

    public static void main(String[] args) throws IOException {
        firstExample();
        secondExample();
        standsBelow(Files.readString(Path.of("README.md")), Files.readString(Path.of("src/test/java/AnswerFoldReadme.java")));
        System.out.println(wrong == 0 ? "the examples are as due" : wrong + " faults of the examples");
        if (wrong != 0) {
            System.exit(1);
        }
    }

    private static void firstExample() {
        AnswerFold x = new AnswerFold();
        int wet = x.addPredicate(0);
        int dry = x.addPredicate(0);
        int first = x.addDisjunction(0);            // wet :- not dry.
        x.addHead(first, wet, 0, 0);
        x.addAtom(first, false, dry, 0, 0);
        int second = x.addDisjunction(0);           // dry :- not wet.
        x.addHead(second, dry, 0, 0);
        x.addAtom(second, false, wet, 0, 0);
        int answers = x.walk();                     // 2
        boolean isWet = x.has(0, wet, 0, 0);        // true: the answer with the first atom comes first
        due("answers", answers, 2);
        due("isWet", isWet, true);
    }

    private static void secondExample() {
        AnswerFold y = new AnswerFold();
        int guest = y.addPredicate(1);
        int seat = y.addPredicate(2);
        int rain = y.addPredicate(0);
        int came = y.addDisjunction(1);             // part 1: guest(parameter).
        y.addHead(came, guest, 40, 0);
        int choice = y.addChoice(0, 1, 1, guest);   // one seat(X, Z) for the table X, of all guests Z, if X < 2
        y.addHead(choice, seat, 10, 12);
        y.addTest(choice, '<', 10, 2);
        int both = y.addDisjunction(0);             // :- seat(0, X), seat(1, X).
        y.addAtom(both, true, seat, 0, 10);
        y.addAtom(both, true, seat, 1, 10);
        int weak = y.addWeak(0, 5, 1);              // 5 at the level 1 for seat(1, 3), if it rains
        y.addAtom(weak, true, seat, 1, 3);
        y.addAtom(weak, true, rain, 0, 0);
        int external = y.addExternal(rain, 0, 0);   // false
        y.ground(1, 2);                             // guest(2)
        y.ground(1, 3);                             // guest(3)
        int open = y.open();                        // 4: two tables, two guests
        char is = y.state(guest, 3, 0);             // 's' sure
        int dryAnswers = y.walk();                  // 2, both cost nothing
        due("dry cost", y.cost(0, 1) + y.cost(1, 1), 0L);
        y.setExternal(external, 't');               // drops the walk, as each call does that tells something
        int rainyAnswers = y.walk();                // 2
        long dearer = y.cost(1, 1);                 // 5: the cheapest one comes first
        char some = y.holds(seat, 1, 3);            // 's' in some
        int why = y.reason(0, seat, 1, 2);          // the number of the choice
        int outside = y.reason(0, rain, 0, 0);      // 100, and the number of the external
        due("cheaper", y.cost(0, 1), 0L);
        y.assume(seat, 1, 3, true);                 // only answers with it
        int assumed = y.walk();                     // 1
        due("open", open, 4);
        due("is", is, 's');
        due("dryAnswers", dryAnswers, 2);
        due("rainyAnswers", rainyAnswers, 2);
        due("dearer", dearer, 5L);
        due("some", some, 's');
        due("why", why, choice);
        due("outside", outside, 100 + external);
        due("assumed", assumed, 1);
    }

    /** Each line of the examples stands in this file, behind the one before it. */
    private static void standsBelow(String page, String test) {
        String[] pieces = page.split("```java\n");
        due("examples", pieces.length - 1, 2);
        int from = 0;
        for (int i = 1; i < pieces.length; i++) {
            String example = pieces[i].substring(0, pieces[i].indexOf("```"));
            for (String line : example.split("\n")) {
                int at = test.indexOf("        " + line + "\n", from);
                due("the line \"" + line + "\" stands in the test", at >= 0, true);
                from = Math.max(from, at);
            }
        }
    }
}
