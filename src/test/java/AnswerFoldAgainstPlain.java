import java.util.ArrayList;
import java.util.BitSet;
import java.util.List;
import java.util.NoSuchElementException;

/**
 * Plays the same calls to AnswerFold and to Plain, which follows the words of the document with plain sets and no
 * thought of speed, and prints every call whose answers differ. The calls come from a fixed sequence of numbers.
 */
public final class AnswerFoldAgainstPlain {
    private static final int RUNS = 300;
    private static final int CALLS = 100;
    /** So many atoms have few enough subsets to try them all. */
    private static final int FEW = 8;
    private static int wrong = 0;
    private static int walks = 0;
    private static int answersSeen = 0;
    private static int refusals = 0;
    private static int byAll = 0;
    private static long seed = 20261119L;

    private static int pick(int below) {
        seed = seed * 6364136223846793005L + 1442695040888963407L;
        return (int) ((seed >>> 33) % below);
    }

    private static boolean chance(int percent) {
        return pick(100) < percent;
    }

    private interface Call {
        Object answer();
    }

    private static Object answerOf(Call call) {
        try {
            return call.answer();
        } catch (RuntimeException e) {
            return "throws " + e.getClass().getSimpleName();
        }
    }

    private static final StringBuilder story = new StringBuilder();

    private static Object compare(String told, Call ours, Call plain) {
        Object got = answerOf(ours);
        Object want = answerOf(plain);
        story.append(told).append(" = ").append(want).append('\n');
        if (!want.equals(got)) {
            wrong++;
            if (wrong <= 3) {
                System.out.println(story);
            }
            System.out.println(told + " answered " + got + ", due is " + want);
        }
        if (want.equals("throws UnsupportedOperationException")) {
            refusals++;
        }
        return want;
    }

    public static void main(String[] args) {
        for (int run = 0; run < RUNS && wrong == 0; run++) {
            story.setLength(0);
            new Play(run % 5).run();
        }
        System.out.println(walks + " walks with " + answersSeen + " answers, " + byAll + " by all, "
                + refusals + " refused, " + wrong + " wrong");
        if (walks < RUNS || answersSeen < RUNS || byAll < RUNS / 2 || refusals < 20) {
            System.out.println("the calls do not reach enough");
            wrong++;
        }
        if (wrong != 0) {
            System.exit(1);
        }
    }

    /** One run of calls; the style decides how large its programs are. */
    private static final class Play {
        final AnswerFold x = new AnswerFold();
        final Plain y = new Plain();
        final int style;

        Play(int style) {
            this.style = style;
        }

        void run() {
            int predicates = 2 + pick(4);
            for (int i = 0; i < predicates; i++) {
                addPredicate(style == 0 ? 0 : pick(10) < 4 ? 0 : pick(10) < 7 ? 1 : 2);
            }
            for (int i = 0; i < 6 + pick(6); i++) {
                addWholeRule();
            }
            look();
            for (int i = 0; i < CALLS && wrong == 0; i++) {
                step();
            }
        }

        void step() {
            int n = pick(100);
            if (n < 10) {
                addWholeRule();
            } else if (n < 14) {
                strange();
            } else if (n < 20) {
                int part = pick(20) == 0 ? pick(6) - 1 : 1 + pick(3);
                int parameter = pick(20) == 0 ? 8 : pick(8);
                compare("ground(" + part + ", " + parameter + ")", () -> x.ground(part, parameter), () -> y.ground(part, parameter));
            } else if (n < 26) {
                int p = predicate();
                int a = value();
                int b = value();
                compare("addExternal" + three(p, a, b), () -> x.addExternal(p, a, b), () -> y.addExternal(p, a, b));
            } else if (n < 36) {
                int e = pick(30) == 0 ? 7 : pick(6);
                char s = chance(3) ? 'x' : "ttffuuuuuur".charAt(pick(chance(30) ? 11 : 10));
                compare("setExternal(" + e + ", " + s + ")", () -> x.setExternal(e, s), () -> y.setExternal(e, s));
            } else if (n < 46) {
                int p = predicate();
                int a = value();
                int b = value();
                boolean in = chance(50);
                compare("assume" + three(p, a, b) + in, () -> x.assume(p, a, b, in), () -> y.assume(p, a, b, in));
            } else if (n < 51) {
                compare("dropAssumptions()", () -> x.dropAssumptions(), () -> y.dropAssumptions());
            } else {
                look();
            }
        }

        void look() {
            lookAtGround();
            Object count = compare("walk()", () -> x.walk(), () -> y.walk());
            if (y.open() <= 8) {
                Object all = compare("walkByAll()", () -> x.walkByAll(), () -> y.walkByAll());
                byAll += all instanceof Integer ? 1 : 0;
            }
            if (count instanceof Integer) {
                walks++;
                answersSeen += (Integer) count;
            }
            lookAtAnswers(count instanceof Integer ? (Integer) count : 1);
        }

        void lookAtGround() {
            for (int i = 0; i < 5; i++) {
                int p = predicate();
                int a = value();
                int b = value();
                compare("state" + three(p, a, b), () -> x.state(p, a, b), () -> y.state(p, a, b));
            }
            compare("open()", () -> x.open(), () -> y.open());
            for (int r = -1; r <= y.rules.size(); r++) {
                int rule = r;
                compare("instances(" + r + ")", () -> x.instances(rule), () -> y.instances(rule));
            }
            compare("loops()", () -> x.loops(), () -> y.loops());
        }

        void lookAtAnswers(int count) {
            compare("best()", () -> x.best(), () -> y.best());
            compare("commonest()", () -> x.commonest(), () -> y.commonest());
            compare("meanSize()", () -> x.meanSize(), () -> y.meanSize());
            for (int p = -1; p <= y.places.size(); p++) {
                int predicate = p;
                compare("projected(" + p + ")", () -> x.projected(predicate), () -> y.projected(predicate));
            }
            for (int answer = -1; answer <= count; answer++) {
                int n = answer;
                compare("size(" + n + ")", () -> x.size(n), () -> y.size(n));
                int level = chance(3) ? pick(2) * 4 : 1 + pick(3);
                compare("cost(" + n + ", " + level + ")", () -> x.cost(n, level), () -> y.cost(n, level));
                for (int atom : y.someAtoms()) {
                    int p = atom / 64;
                    int a = atom % 64 / 8;
                    int b = atom % 8;
                    compare("has" + n + three(p, a, b), () -> x.has(n, p, a, b), () -> y.has(n, p, a, b));
                    compare("reason" + n + three(p, a, b), () -> x.reason(n, p, a, b), () -> y.reason(n, p, a, b));
                }
            }
            for (int i = 0; i < 6; i++) {
                int p = predicate();
                int a = value();
                int b = value();
                compare("holds" + three(p, a, b), () -> x.holds(p, a, b), () -> y.holds(p, a, b));
                compare("share" + three(p, a, b), () -> x.share(p, a, b), () -> y.share(p, a, b));
                compare("has0" + three(p, a, b), () -> x.has(0, p, a, b), () -> y.has(0, p, a, b));
                compare("reason0" + three(p, a, b), () -> x.reason(0, p, a, b), () -> y.reason(0, p, a, b));
            }
        }

        String three(int p, int a, int b) {
            return "(" + p + ", " + a + ", " + b + ")";
        }

        int predicate() {
            return pick(60) == 0 ? pick(9) - 1 : pick(Math.max(1, y.places.size()));
        }

        int value() {
            return pick(60) == 0 ? (chance(50) ? -1 : 8) : pick(style == 4 ? 8 : 3);
        }

        int term() {
            int n = pick(100);
            if (n < 3) {
                return pick(70) - 5;
            }
            if (n < 55 || style == 1) {
                return style == 4 ? pick(8) : pick(3);
            }
            int[] some = {10, 11, 12, 10, 11, 20, 21, 22, 30, 31, 32, 40, 50, 40, 7, 0};
            return some[pick(some.length)];
        }

        void addPredicate(int n) {
            compare("addPredicate(" + n + ")", () -> x.addPredicate(n), () -> y.addPredicate(n));
        }

        void strange() {
            int part = pick(7) - 1;
            int low = pick(13) - 1;
            int high = pick(13) - 1;
            int span = pick(9) - 2;
            int weight = pick(5) == 0 ? 100 - 200 * pick(2) : pick(199) - 99;
            switch (pick(5)) {
                case 0:
                    addPredicate(pick(5) - 1);
                    break;
                case 1:
                    compare("addDisjunction(" + part + ")", () -> x.addDisjunction(part), () -> y.addDisjunction(part));
                    break;
                case 2:
                    compare("addChoice(" + part + ", " + low + ", " + high + ", " + span + ")",
                            () -> x.addChoice(part, low, high, span), () -> y.addChoice(part, low, high, span));
                    break;
                case 3:
                    compare("addWeak(" + part + ", " + weight + ", " + low + ")",
                            () -> x.addWeak(part, weight, low), () -> y.addWeak(part, weight, low));
                    break;
                default:
                    addCondition(predicate());
            }
        }

        void addWholeRule() {
            int part = chance(75) ? 0 : 1 + pick(3);
            int before = y.rules.size();
            int n = pick(100);
            if (n < 62) {
                compare("addDisjunction(" + part + ")", () -> x.addDisjunction(part), () -> y.addDisjunction(part));
            } else if (n < 85) {
                int low = pick(3) == 0 ? 1 : 0;
                int high = low + pick(3) + (chance(20) ? 5 : 0);
                int span = chance(50) ? -1 : pick(Math.max(1, y.places.size()));
                compare("addChoice(" + part + ", " + low + ", " + high + ", " + span + ")",
                        () -> x.addChoice(part, low, high, span), () -> y.addChoice(part, low, high, span));
            } else {
                int weight = pick(9) - 4;
                int level = 1 + pick(3);
                compare("addWeak(" + part + ", " + weight + ", " + level + ")",
                        () -> x.addWeak(part, weight, level), () -> y.addWeak(part, weight, level));
            }
            if (y.rules.size() == before) {
                return;
            }
            int heads = y.rules.get(before).kind == 'w' ? pick(20) / 19 : chance(6) ? 0 : chance(60) ? 1 : 2;
            for (int i = 0; i < heads; i++) {
                addHead(before);
            }
            int conditions = pick(heads == 0 ? 3 : 4) + (heads == 0 ? 1 : 0);
            for (int i = 0; i < conditions; i++) {
                addCondition(before);
            }
        }

        void addHead(int r) {
            int p = predicate();
            int a = term();
            int b = term();
            compare("addHead(" + r + ", " + p + ", " + a + ", " + b + ")",
                    () -> x.addHead(r, p, a, b), () -> y.addHead(r, p, a, b));
        }

        void addCondition(int r) {
            int p = predicate();
            int a = term();
            int b = term();
            int n = pick(100);
            if (n < 70) {
                boolean isTrue = chance(60);
                compare("addAtom(" + r + ", " + isTrue + ", " + p + ", " + a + ", " + b + ")",
                        () -> x.addAtom(r, isTrue, p, a, b), () -> y.addAtom(r, isTrue, p, a, b));
            } else if (n < 85) {
                char test = "<=!!<<x".charAt(pick(chance(5) ? 7 : 6));
                compare("addTest(" + r + ", " + test + ", " + a + ", " + b + ")",
                        () -> x.addTest(r, test, a, b), () -> y.addTest(r, test, a, b));
            } else {
                char kind = "glglx".charAt(pick(chance(5) ? 5 : 4));
                int bound = chance(3) ? pick(2) * 22 - 1 : pick(4);
                compare("addCount(" + r + ", " + kind + ", " + p + ", " + bound + ")",
                        () -> x.addCount(r, kind, p, bound), () -> y.addCount(r, kind, p, bound));
            }
        }
    }

    /** A condition or a head as it was told. */
    private static final class Told {
        char kind;
        int predicate;
        int first;
        int second;
        int bound;
    }

    private static final class PlainRule {
        char kind;
        int part;
        int lower;
        int upper;
        int span = -1;
        int weight;
        int level;
        final List<Told> heads = new ArrayList<>();
        final List<Told> body = new ArrayList<>();
    }

    /** An instance: a rule with values; heads are told as a set of atoms. */
    private static final class Instance {
        PlainRule rule;
        int number;
        int[] values;
        final BitSet heads = new BitSet();
        boolean isLeftOut;
    }

    private static final class Plain {
        final List<Integer> places = new ArrayList<>();
        final List<PlainRule> rules = new ArrayList<>();
        final List<int[]> times = new ArrayList<>();
        final List<Integer> externals = new ArrayList<>();
        final List<Character> states = new ArrayList<>();
        final BitSet in = new BitSet();
        final BitSet out = new BitSet();
        BitSet sure;
        BitSet possible;
        List<Instance> kept;
        List<BitSet> answers;

        Plain() {
            times.add(new int[] {0, 0});
        }

        void told() {
            sure = null;
            answers = null;
        }

        int addPredicate(int n) {
            need(n >= 0 && n <= 2, new IllegalArgumentException());
            need(places.size() < 6, new IllegalStateException());
            told();
            places.add(n);
            return places.size() - 1;
        }

        int addRule(PlainRule rule) {
            need(rules.size() < 20, new IllegalStateException());
            told();
            rules.add(rule);
            return rules.size() - 1;
        }

        PlainRule make(char kind, int part) {
            need(part >= 0 && part <= 3, new IllegalArgumentException());
            PlainRule rule = new PlainRule();
            rule.kind = kind;
            rule.part = part;
            return rule;
        }

        int addDisjunction(int part) {
            return addRule(make('d', part));
        }

        int addChoice(int part, int lower, int upper, int span) {
            PlainRule rule = make('c', part);
            need(lower >= 0 && lower <= 9 && upper >= lower && upper <= 9, new IllegalArgumentException());
            need(span == -1 || span >= 0 && span < places.size() && places.get(span) == 1, new IllegalArgumentException());
            rule.lower = lower;
            rule.upper = upper;
            rule.span = span;
            return addRule(rule);
        }

        int addWeak(int part, int weight, int level) {
            PlainRule rule = make('w', part);
            need(weight >= -99 && weight <= 99 && level >= 1 && level <= 3, new IllegalArgumentException());
            rule.weight = weight;
            rule.level = level;
            return addRule(rule);
        }

        boolean isTerm(int t) {
            return t >= 0 && t <= 7 || t >= 10 && t <= 12 || t >= 20 && t <= 22 || t >= 30 && t <= 32 || t == 40 || t == 50;
        }

        boolean isLocal(PlainRule rule, int t) {
            return rule.kind == 'c' && rule.span >= 0 && (t == 12 || t == 22 || t == 32);
        }

        void needRule(int r) {
            need(r >= 0 && r < rules.size(), new IndexOutOfBoundsException());
        }

        void needPredicate(int p) {
            need(p >= 0 && p < places.size(), new IndexOutOfBoundsException());
        }

        Told piece(char kind, int p, int a, int b, int bound) {
            Told told = new Told();
            told.kind = kind;
            told.predicate = p;
            told.first = a;
            told.second = b;
            told.bound = bound;
            return told;
        }

        int addHead(int r, int p, int a, int b) {
            needRule(r);
            needPredicate(p);
            need(places.get(p) < 1 || isTerm(a), new IllegalArgumentException());
            need(places.get(p) < 2 || isTerm(b), new IllegalArgumentException());
            PlainRule rule = rules.get(r);
            need(rule.kind != 'w' && rule.heads.size() < 2, new IllegalStateException());
            told();
            rule.heads.add(piece('h', p, a, b, 0));
            return rule.heads.size();
        }

        int addPiece(PlainRule rule, Told piece) {
            need(rule.body.size() < 5, new IllegalStateException());
            told();
            rule.body.add(piece);
            return rule.body.size();
        }

        int addAtom(int r, boolean isTrue, int p, int a, int b) {
            needRule(r);
            needPredicate(p);
            PlainRule rule = rules.get(r);
            need(places.get(p) < 1 || isTerm(a) && !isLocal(rule, a), new IllegalArgumentException());
            need(places.get(p) < 2 || isTerm(b) && !isLocal(rule, b), new IllegalArgumentException());
            return addPiece(rule, piece(isTrue ? 't' : 'f', p, a, b, 0));
        }

        int addTest(int r, char test, int a, int b) {
            needRule(r);
            PlainRule rule = rules.get(r);
            need("<=!".indexOf(test) >= 0, new IllegalArgumentException());
            need(isTerm(a) && isTerm(b) && !isLocal(rule, a) && !isLocal(rule, b), new IllegalArgumentException());
            return addPiece(rule, piece(test, 0, a, b, 0));
        }

        int addCount(int r, char kind, int p, int bound) {
            needRule(r);
            needPredicate(p);
            need((kind == 'g' || kind == 'l') && bound >= 0 && bound <= 20, new IllegalArgumentException());
            return addPiece(rules.get(r), piece(kind, p, 0, 0, bound));
        }

        int ground(int part, int parameter) {
            need(part >= 1 && part <= 3 && parameter >= 0 && parameter <= 7, new IllegalArgumentException());
            need(times.size() < 7, new IllegalStateException());
            for (int[] time : times) {
                need(time[0] != part || time[1] != parameter, new IllegalStateException());
            }
            told();
            times.add(new int[] {part, parameter});
            return times.size() - 1;
        }

        int atom(int p, int a, int b) {
            needPredicate(p);
            int n = places.get(p);
            need(n < 1 || a >= 0 && a <= 7, new IllegalArgumentException());
            need(n < 2 || b >= 0 && b <= 7, new IllegalArgumentException());
            return p * 64 + (n < 1 ? 0 : a * 8) + (n < 2 ? 0 : b);
        }

        int addExternal(int p, int a, int b) {
            int atom = atom(p, a, b);
            need(externals.size() < 6 && !externals.contains(atom), new IllegalStateException());
            told();
            externals.add(atom);
            states.add('f');
            return externals.size() - 1;
        }

        char setExternal(int e, char state) {
            need(e >= 0 && e < externals.size(), new IndexOutOfBoundsException());
            need("tfur".indexOf(state) >= 0, new IllegalArgumentException());
            need(states.get(e) != 'r', new IllegalStateException());
            told();
            return states.set(e, state);
        }

        int assume(int p, int a, int b, boolean isIn) {
            int atom = atom(p, a, b);
            answers = null;
            in.set(atom, isIn);
            out.set(atom, !isIn);
            return in.cardinality() + out.cardinality();
        }

        int dropAssumptions() {
            int before = in.cardinality() + out.cardinality();
            answers = null;
            in.clear();
            out.clear();
            return before;
        }

        // what is grounded

        int value(int[] values, int term) {
            switch (term / 10) {
                case 0:
                    return term;
                case 1:
                    return values[term - 10];
                case 2:
                    return values[term - 20] + 1;
                case 3:
                    return values[term - 30] - 1;
                case 4:
                    return values[3];
                default:
                    return values[3] - 1;
            }
        }

        /** -1 for an atom with a value that is not from 0 to 7. */
        int atomOf(Told told, int[] values) {
            int n = places.get(told.predicate);
            int a = n < 1 ? 0 : value(values, told.first);
            int b = n < 2 ? 0 : value(values, told.second);
            return a < 0 || a > 7 || b < 0 || b > 7 ? -1 : told.predicate * 64 + a * 8 + b;
        }

        boolean testHolds(Told told, int[] values) {
            int a = value(values, told.first);
            int b = value(values, told.second);
            return told.kind == '<' ? a < b : told.kind == '=' ? a == b : a != b;
        }

        boolean occurs(PlainRule rule, int variable) {
            List<Told> all = new ArrayList<>(rule.heads);
            all.addAll(rule.body);
            for (Told told : all) {
                boolean isTest = "<=!".indexOf(told.kind) >= 0;
                int n = isTest ? 2 : told.kind == 'g' || told.kind == 'l' ? 0 : places.get(told.predicate);
                if (n > 0 && isVariable(told.first, variable) || n > 1 && isVariable(told.second, variable)) {
                    return true;
                }
            }
            return false;
        }

        boolean isVariable(int term, int variable) {
            return term >= 10 && term < 40 && term % 10 == variable;
        }

        List<Instance> allInstances(BitSet spanned) {
            List<Instance> all = new ArrayList<>();
            for (int r = 0; r < rules.size(); r++) {
                PlainRule rule = rules.get(r);
                for (int[] time : times) {
                    if (time[0] != rule.part) {
                        continue;
                    }
                    int[] ends = new int[3];
                    for (int v = 0; v < 3; v++) {
                        boolean isChosen = occurs(rule, v) && !(v == 2 && rule.span >= 0);
                        ends[v] = isChosen ? 8 : 1;
                    }
                    for (int a = 0; a < ends[0]; a++) {
                        for (int b = 0; b < ends[1]; b++) {
                            for (int c = 0; c < ends[2]; c++) {
                                all.add(instance(rule, r, new int[] {a, b, c, time[1]}, spanned));
                            }
                        }
                    }
                }
            }
            return all;
        }

        Instance instance(PlainRule rule, int number, int[] values, BitSet spanned) {
            Instance made = new Instance();
            made.rule = rule;
            made.number = number;
            made.values = values;
            for (Told head : rule.heads) {
                if (rule.span < 0) {
                    addHead(made, atomOf(head, values));
                    continue;
                }
                for (int v = 0; v < 8; v++) {
                    if (spanned.get(rule.span * 64 + v * 8)) {
                        addHead(made, atomOf(head, new int[] {values[0], values[1], v, values[3]}));
                    }
                }
            }
            return made;
        }

        void addHead(Instance made, int atom) {
            if (atom >= 0) {
                made.heads.set(atom);
            } else if (made.rule.kind == 'd') {
                made.isLeftOut = true;
            }
        }

        void refresh() {
            if (sure != null) {
                return;
            }
            sure = new BitSet();
            possible = new BitSet();
            for (int e = 0; e < externals.size(); e++) {
                if (states.get(e) == 't') {
                    sure.set(externals.get(e));
                }
                if (states.get(e) == 't' || states.get(e) == 'u') {
                    possible.set(externals.get(e));
                }
            }
            List<Instance> all = allInstances(new BitSet());
            for (int before = -1; before != sure.cardinality();) {
                before = sure.cardinality();
                for (Instance i : all) {
                    if (i.rule.kind == 'd' && i.rule.heads.size() == 1 && !i.isLeftOut && isSureBody(i)) {
                        sure.or(i.heads);
                    }
                }
            }
            all = allInstances(sure);
            for (int before = -1; before != possible.cardinality();) {
                before = possible.cardinality();
                for (Instance i : all) {
                    if (i.rule.kind != 'w' && !i.isLeftOut && isPossibleBody(i)) {
                        possible.or(i.heads);
                    }
                }
            }
            kept = new ArrayList<>();
            for (Instance i : all) {
                if (!i.isLeftOut && isPossibleBody(i)) {
                    kept.add(i);
                }
            }
        }

        boolean isSureBody(Instance i) {
            for (Told told : i.rule.body) {
                if (told.kind == 't') {
                    int atom = atomOf(told, i.values);
                    if (atom < 0 || !sure.get(atom)) {
                        return false;
                    }
                } else if ("<=!".indexOf(told.kind) < 0 || !testHolds(told, i.values)) {
                    return false;
                }
            }
            return true;
        }

        boolean isPossibleBody(Instance i) {
            for (Told told : i.rule.body) {
                if (told.kind == 't' || told.kind == 'f') {
                    int atom = atomOf(told, i.values);
                    boolean is = atom >= 0 && (told.kind == 't' ? possible : sure).get(atom);
                    if (is != (told.kind == 't')) {
                        return false;
                    }
                } else if ("<=!".indexOf(told.kind) >= 0 && !testHolds(told, i.values)) {
                    return false;
                }
            }
            return true;
        }

        char state(int p, int a, int b) {
            int atom = atom(p, a, b);
            refresh();
            return sure.get(atom) ? 's' : possible.get(atom) ? 'o' : 'n';
        }

        BitSet openAtoms() {
            refresh();
            BitSet open = (BitSet) possible.clone();
            open.andNot(sure);
            return open;
        }

        int open() {
            return openAtoms().cardinality();
        }

        int instances(int rule) {
            needRule(rule);
            refresh();
            int found = 0;
            for (Instance i : kept) {
                found += i.number == rule ? 1 : 0;
            }
            return found;
        }

        int loops() {
            refresh();
            need(kept.size() <= 300, new UnsupportedOperationException());
            BitSet open = openAtoms();
            BitSet done = new BitSet();
            int found = 0;
            for (int atom = open.nextSetBit(0); atom >= 0; atom = open.nextSetBit(atom + 1)) {
                BitSet from = reached(atom, open);
                if (!from.get(atom) || done.get(atom)) {
                    continue;
                }
                found++;
                for (int other = from.nextSetBit(0); other >= 0; other = from.nextSetBit(other + 1)) {
                    if (reached(other, open).get(atom)) {
                        done.set(other);
                    }
                }
            }
            return found;
        }

        BitSet reached(int atom, BitSet open) {
            BitSet heads = new BitSet();
            BitSet found = new BitSet();
            heads.set(atom);
            for (int before = -1; before != found.cardinality();) {
                before = found.cardinality();
                for (Instance i : kept) {
                    if (!i.heads.intersects(heads)) {
                        continue;
                    }
                    for (Told told : i.rule.body) {
                        if (told.kind == 't' && open.get(atomOf(told, i.values))) {
                            found.set(atomOf(told, i.values));
                        }
                    }
                }
                heads.or(found);
            }
            return found;
        }

        // answers

        boolean bodyHolds(Instance i, BitSet set) {
            for (Told told : i.rule.body) {
                if (told.kind == 't' || told.kind == 'f') {
                    int atom = atomOf(told, i.values);
                    if ((atom >= 0 && set.get(atom)) != (told.kind == 't')) {
                        return false;
                    }
                } else if (told.kind == 'g' || told.kind == 'l') {
                    int found = set.get(told.predicate * 64, told.predicate * 64 + 64).cardinality();
                    if (told.kind == 'g' ? found < told.bound : found > told.bound) {
                        return false;
                    }
                } else if (!testHolds(told, i.values)) {
                    return false;
                }
            }
            return true;
        }

        int common(BitSet a, BitSet b) {
            BitSet both = (BitSet) a.clone();
            both.and(b);
            return both.cardinality();
        }

        boolean isModel(BitSet set) {
            for (Instance i : kept) {
                if (i.rule.kind == 'w' || !bodyHolds(i, set)) {
                    continue;
                }
                int found = common(i.heads, set);
                if (i.rule.kind == 'd' ? found == 0 : found < i.rule.lower || found > i.rule.upper) {
                    return false;
                }
            }
            for (int e = 0; e < externals.size(); e++) {
                if (states.get(e) == 't' && !set.get(externals.get(e))) {
                    return false;
                }
            }
            return true;
        }

        /** Whether a set with fewer atoms of the answer does what the document forbids. */
        boolean does(BitSet fewer, BitSet answer, List<Instance> held) {
            for (Instance i : held) {
                if (!bodyHolds(i, fewer)) {
                    continue;
                }
                if (i.rule.kind == 'd') {
                    if (!i.heads.intersects(fewer)) {
                        return false;
                    }
                } else if (common(i.heads, answer) != common(i.heads, fewer)) {
                    return false;
                }
            }
            for (int e = 0; e < externals.size(); e++) {
                int atom = externals.get(e);
                boolean isAsked = states.get(e) == 't' || states.get(e) == 'u' && answer.get(atom);
                if (isAsked && !fewer.get(atom)) {
                    return false;
                }
            }
            return true;
        }

        /** All subsets of a set, by the numbers from 0 on; the whole set is the last one. */
        BitSet subset(BitSet of, int number) {
            BitSet made = new BitSet();
            int place = 0;
            for (int atom = of.nextSetBit(0); atom >= 0; atom = of.nextSetBit(atom + 1)) {
                made.set(atom, (number >> place & 1) != 0);
                place++;
            }
            return made;
        }

        boolean isAnswer(BitSet set) {
            if (!isModel(set)) {
                return false;
            }
            List<Instance> held = new ArrayList<>();
            for (Instance i : kept) {
                if (i.rule.kind != 'w' && bodyHolds(i, set)) {
                    held.add(i);
                }
            }
            // all smaller sets if they are few, as "Terms" says, else those with all sure atoms, as promise 20 does
            BitSet free = (BitSet) set.clone();
            BitSet fixed = new BitSet();
            if (set.cardinality() > FEW) {
                free.andNot(sure);
                fixed = sure;
            }
            int all = (1 << free.cardinality()) - 1;
            for (int n = 0; n < all; n++) {
                BitSet fewer = subset(free, n);
                fewer.or(fixed);
                if (does(fewer, set, held)) {
                    return false;
                }
            }
            return true;
        }

        List<BitSet> find(int most) {
            boolean isFew = possible.cardinality() <= FEW;
            BitSet free = isFew ? possible : openAtoms();
            List<BitSet> found = new ArrayList<>();
            for (int n = 0; n < 1 << free.cardinality() && found.size() <= most; n++) {
                BitSet set = subset(free, n);
                if (!isFew) {
                    set.or(sure);
                }
                BitSet lacking = (BitSet) in.clone();
                lacking.andNot(set);
                if (lacking.isEmpty() && !out.intersects(set) && isAnswer(set)) {
                    found.add(set);
                }
            }
            return found;
        }

        int walk() {
            refresh();
            need(open() <= 12 && kept.size() <= 300, new UnsupportedOperationException());
            List<BitSet> found = find(64);
            need(found.size() <= 64, new UnsupportedOperationException());
            found.sort((a, b) -> order(a, b));
            answers = found;
            return found.size();
        }

        int order(BitSet a, BitSet b) {
            for (int level = 3; level >= 1; level--) {
                int byCost = Long.compare(costOf(a, level), costOf(b, level));
                if (byCost != 0) {
                    return byCost;
                }
            }
            for (int atom = 0; atom < 384; atom++) {
                if (a.get(atom) != b.get(atom)) {
                    return a.get(atom) ? -1 : 1;
                }
            }
            return 0;
        }

        long costOf(BitSet set, int level) {
            long sum = 0;
            for (Instance i : kept) {
                sum += i.rule.kind == 'w' && i.rule.level == level && bodyHolds(i, set) ? i.rule.weight : 0;
            }
            return sum;
        }

        int walkByAll() {
            refresh();
            need(open() <= 7 && kept.size() <= 300, new UnsupportedOperationException());
            return find(1000).size();
        }

        void needWalk() {
            need(answers != null, new IllegalStateException());
        }

        BitSet answer(int n) {
            needWalk();
            need(n >= 0 && n < answers.size(), new IndexOutOfBoundsException());
            return answers.get(n);
        }

        boolean has(int n, int p, int a, int b) {
            BitSet set = answer(n);
            return set.get(atom(p, a, b));
        }

        int size(int n) {
            return answer(n).cardinality();
        }

        long cost(int n, int level) {
            BitSet set = answer(n);
            need(level >= 1 && level <= 3, new IllegalArgumentException());
            return costOf(set, level);
        }

        int best() {
            needWalk();
            int found = 0;
            for (BitSet set : answers) {
                boolean same = true;
                for (int level = 1; level <= 3; level++) {
                    same &= costOf(set, level) == costOf(answers.get(0), level);
                }
                found += same ? 1 : 0;
            }
            return found;
        }

        int projected(int p) {
            needWalk();
            needPredicate(p);
            List<BitSet> seen = new ArrayList<>();
            for (BitSet set : answers) {
                BitSet part = set.get(p * 64, p * 64 + 64);
                if (!seen.contains(part)) {
                    seen.add(part);
                }
            }
            return seen.size();
        }

        int with(int atom) {
            int found = 0;
            for (BitSet set : answers) {
                found += set.get(atom) ? 1 : 0;
            }
            return found;
        }

        char holds(int p, int a, int b) {
            needWalk();
            int found = with(atom(p, a, b));
            return found == answers.size() ? 'a' : found == 0 ? 'n' : 's';
        }

        int reason(int n, int p, int a, int b) {
            BitSet set = answer(n);
            int atom = atom(p, a, b);
            need(set.get(atom), new NoSuchElementException());
            int lowest = 1000;
            for (Instance i : kept) {
                if (i.rule.kind != 'w' && i.heads.get(atom) && bodyHolds(i, set)) {
                    if (i.rule.kind == 'c' || common(i.heads, set) == 1) {
                        lowest = Math.min(lowest, i.number);
                    }
                }
            }
            return lowest < 1000 ? lowest : 100 + externals.indexOf(atom);
        }

        float share(int p, int a, int b) {
            needWalk();
            int atom = atom(p, a, b);
            need(!answers.isEmpty(), new ArithmeticException());
            return (float) with(atom) / (float) answers.size();
        }

        int commonest() {
            needWalk();
            BitSet open = openAtoms();
            need(!open.isEmpty() && !answers.isEmpty(), new NoSuchElementException());
            int best = open.nextSetBit(0);
            for (int atom = best; atom >= 0; atom = open.nextSetBit(atom + 1)) {
                best = with(atom) > with(best) ? atom : best;
            }
            return 100 * (best / 64) + 10 * (best % 64 / 8) + best % 8;
        }

        double meanSize() {
            needWalk();
            need(!answers.isEmpty(), new ArithmeticException());
            int sum = 0;
            for (BitSet set : answers) {
                sum += set.cardinality();
            }
            return (double) sum / (double) answers.size();
        }

        /** Atoms that are worth a look: a few of the possible ones. */
        List<Integer> someAtoms() {
            refresh();
            List<Integer> found = new ArrayList<>();
            for (int atom = possible.nextSetBit(0); atom >= 0; atom = possible.nextSetBit(atom + 1)) {
                if (chance(40) && found.size() < 4) {
                    found.add(atom);
                }
            }
            return found;
        }

        void need(boolean is, RuntimeException otherwise) {
            if (!is) {
                throw otherwise;
            }
        }
    }
}
