import java.io.IOException;
import java.nio.file.Files;
import java.nio.file.Path;
import java.util.ArrayList;
import java.util.List;
import java.util.Map;
import java.util.NoSuchElementException;
import java.util.TreeMap;
import java.util.function.IntFunction;
import java.util.regex.Matcher;
import java.util.regex.Pattern;

/**
 * Tests that are held to the sentences of ../shared/DOC.md. A test names the promise and words of the one sentence that
 * it holds; finish() fails if a sentence of the promises at hand has no test. The promise 0 is what the document says
 * before promise 1.
 */
abstract class SentenceTest {
    static final Class<?> INDEX = IndexOutOfBoundsException.class;
    static final Class<?> ARGUMENT = IllegalArgumentException.class;
    static final Class<?> STATE = IllegalStateException.class;
    static final Class<?> UNSUPPORTED = UnsupportedOperationException.class;
    static final Class<?> NO_ELEMENT = NoSuchElementException.class;
    static final Class<?> ARITHMETIC = ArithmeticException.class;
    static final int X = 10;
    static final int Y = 11;
    static final int Z = 12;
    static final int X_PLUS_ONE = 20;
    static final int X_LESS_ONE = 30;
    static final int PARAMETER = 40;
    static final int PARAMETER_LESS_ONE = 50;
    static final int MIN = Integer.MIN_VALUE;
    static final int MAX = Integer.MAX_VALUE;
    static final int[] NO_TERMS = {MIN, -1, 8, 9, 13, 19, 23, 29, 33, 39, 41, 49, 51, MAX};

    private static final String DOCUMENT = "../shared/DOC.md";
    private static final Pattern PROMISE = Pattern.compile("## Promise (\\d+): .*");
    /** Titles of paragraphs, like "Sure and possible.", are shorter than any sentence. */
    private static final int SHORTEST = 20;

    private static final Map<Integer, List<String>> sentences = new TreeMap<>();
    private static final List<String> held = new ArrayList<>();
    private static String now = "";
    private static int checks = 0;
    private static int wrong = 0;

    interface Call {
        Object answer();
    }

    // ---- the document

    /** Reads the sentences of the promises from first to last. */
    static void read(int first, int last) throws IOException {
        int promise = -1;
        StringBuilder paragraph = new StringBuilder();
        for (String line : (Files.readString(Path.of(DOCUMENT)) + "\n\n").split("\n", -1)) {
            if (line.startsWith("## ")) {
                promise = promiseOf(line);
            } else if (line.isEmpty() || line.startsWith("- ")) {
                note(promise, paragraph.toString());
                paragraph.setLength(0);
                paragraph.append(line);
            } else {
                paragraph.append(paragraph.length() == 0 ? "" : " ").append(line);
            }
        }
        sentences.keySet().removeIf(p -> p < first || p > last);
        if (sentences.size() != last - first + 1) {
            fault("the document has only the promises " + sentences.keySet());
        }
    }

    private static int promiseOf(String heading) {
        if (heading.equals("## What it is") || heading.equals("## Terms")) {
            return 0;
        }
        Matcher m = PROMISE.matcher(heading);
        return m.matches() ? Integer.parseInt(m.group(1)) : -1;
    }

    private static void note(int promise, String paragraph) {
        if (promise < 0) {
            return;
        }
        String text = paragraph.startsWith("- ") ? paragraph.substring(2) : paragraph;
        boolean isSignature = text.startsWith("`") && text.contains("(") && text.contains("`: ");
        for (String s : (isSignature ? text.substring(text.indexOf("`: ") + 3) : text).split("(?<=\\.) (?=[A-Z])")) {
            if (!s.isEmpty() && !(promise == 0 && s.length() < SHORTEST)) {
                sentences.computeIfAbsent(promise, p -> new ArrayList<>()).add(s);
            }
        }
    }

    private static String find(int promise, String words) {
        List<String> all = sentences.getOrDefault(promise, List.of());
        if (all.contains(words)) {
            return words;
        }
        List<String> found = new ArrayList<>(all);
        found.removeIf(s -> !s.contains(words));
        return found.size() == 1 ? found.get(0) : null;
    }

    // ---- tests

    /** Runs a test of the sentence that has these words. */
    static void holds(int promise, String words, Runnable test) {
        now = "promise " + promise + ", \"" + words + "\"";
        String sentence = find(promise, words);
        if (sentence == null) {
            fault("these words are not those of one sentence");
        }
        held.add(promise + " " + sentence);
        int before = checks;
        try {
            test.run();
        } catch (RuntimeException e) {
            fault("threw " + e);
        }
        if (checks == before) {
            fault("the test looks at nothing");
        }
    }

    static void finish() {
        int count = 0;
        for (Map.Entry<Integer, List<String>> entry : sentences.entrySet()) {
            for (String sentence : entry.getValue()) {
                now = "promise " + entry.getKey() + ", \"" + sentence + "\"";
                count++;
                if (!held.contains(entry.getKey() + " " + sentence)) {
                    fault("has no test");
                }
            }
        }
        System.out.println(count + " sentences, " + checks + " checks, " + wrong + " wrong");
        if (wrong != 0) {
            System.exit(1);
        }
    }

    private static void fault(String what) {
        wrong++;
        System.out.println(now + ": " + what);
    }

    static void due(String what, Object got, Object want) {
        checks++;
        if (!want.equals(got)) {
            fault(what + " answered " + got + ", due is " + want);
        }
    }

    static void refused(String what, Class<?> want, Call call) {
        checks++;
        Object got;
        try {
            got = call.answer();
        } catch (RuntimeException e) {
            got = e.getClass();
        }
        if (got != want) {
            fault(what + " answered " + got + ", due is " + want);
        }
    }

    static void refusedEach(String what, Class<?> want, IntFunction<Object> call, int... values) {
        for (int v : values) {
            refused(what + " " + v, want, () -> call.apply(v));
        }
    }

    /** All these values are taken, whatever the answer. */
    static void takenEach(String what, IntFunction<Object> call, int... values) {
        for (int v : values) {
            checks++;
            try {
                call.apply(v);
            } catch (RuntimeException e) {
                fault(what + " " + v + " threw " + e);
            }
        }
    }

    // ---- programs that tests say often

    static AnswerFold with(int... places) {
        AnswerFold x = new AnswerFold();
        for (int n : places) {
            x.addPredicate(n);
        }
        return x;
    }

    static int fact(AnswerFold x, int predicate, int first, int second) {
        int rule = x.addDisjunction(0);
        x.addHead(rule, predicate, first, second);
        return rule;
    }

    /** Atoms without places: head if all of these are true (n) or false (-1 - n); without a head for -1. */
    static int rule(AnswerFold x, int head, int... body) {
        int rule = x.addDisjunction(0);
        if (head >= 0) {
            x.addHead(rule, head, 0, 0);
        }
        for (int b : body) {
            x.addAtom(rule, b >= 0, b >= 0 ? b : -1 - b, 0, 0);
        }
        return rule;
    }

    static int either(AnswerFold x, int one, int two) {
        int rule = rule(x, one);
        x.addHead(rule, two, 0, 0);
        return rule;
    }

    static int choose(AnswerFold x, int lower, int upper, int... heads) {
        int rule = x.addChoice(0, lower, upper, -1);
        for (int h : heads) {
            x.addHead(rule, h, 0, 0);
        }
        return rule;
    }

    /** A domain with so many values, as the predicate 0, and a choice over it of atoms of the predicate 1. */
    static AnswerFold chooser(int values, int lower, int upper) {
        AnswerFold x = with(1, 1, 1);
        for (int v = 0; v < values; v++) {
            fact(x, 0, v, 0);
        }
        int rule = x.addChoice(0, lower, upper, 0);
        x.addHead(rule, 1, Z, 0);
        return x;
    }

    /** A weak rule for an atom of the predicate 1. */
    static int weak(AnswerFold x, int weight, int level, int value) {
        int w = x.addWeak(0, weight, level);
        x.addAtom(w, true, 1, value, 0);
        return w;
    }

    /** Adds so many instances of weak rules that cost nothing. */
    static void fill(AnswerFold x, int instances) {
        int left = instances;
        while (left > 0) {
            int wide = 1;
            int high = 1;
            for (int a = 1; a <= 8; a++) {
                for (int b = 1; b <= 8; b++) {
                    if (a * b <= left && a * b > wide * high) {
                        wide = a;
                        high = b;
                    }
                }
            }
            int w = x.addWeak(0, 0, 1);
            x.addTest(w, '<', X, wide < 8 ? wide : 20);
            x.addTest(w, '<', Y, high < 8 ? high : 21);
            left -= wide * high;
        }
    }

    /**
     * The atoms of each answer of a new walk, in the order of answers: predicate, first and second value. Predicates
     * with -1 places are left out.
     */
    static String answers(AnswerFold x, int... places) {
        StringBuilder all = new StringBuilder();
        int n = x.walk();
        for (int i = 0; i < n; i++) {
            all.append(i == 0 ? "" : " | ");
            appendAtoms(all, x, i, places);
        }
        return all.toString();
    }

    private static void appendAtoms(StringBuilder all, AnswerFold x, int answer, int... places) {
        int from = all.length();
        for (int p = 0; p < places.length; p++) {
            for (int a = 0; a < (places[p] < 0 ? 0 : places[p] > 0 ? 8 : 1); a++) {
                for (int b = 0; b < (places[p] > 1 ? 8 : 1); b++) {
                    if (x.has(answer, p, a, b)) {
                        all.append(all.length() == from ? "" : " ").append(p);
                        all.append(places[p] > 0 ? "" + a : "").append(places[p] > 1 ? "" + b : "");
                    }
                }
            }
        }
        all.append(all.length() == from ? "-" : "");
    }
}
