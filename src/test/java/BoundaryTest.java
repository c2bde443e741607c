import java.util.ArrayList;
import java.util.Arrays;
import java.util.List;

/**
 * The sentences of the document that name a boundary, each with a test of its
 * own: at the boundary, on both sides of it, and, where a call is refused, that
 * the calls after it answer as if it had not been made.
 */
public final class BoundaryTest {
    private static final int HAS = 0;
    private static final int PAIR = 1;
    private static final int SAME = 2;
    private static final int REACH = 3;
    private static final int NOT = 4;
    private static final int AND = 5;
    private static final int OR = 6;
    private static final int IMPLIES = 7;
    private static final int IFF = 8;
    private static final int ALL = 9;
    private static final int SOME = 10;
    private static final int MANY = 11;

    private static final int LEAST = Integer.MIN_VALUE;
    private static final int MOST = Integer.MAX_VALUE;
    private static final int MOST_CALLS = 512;

    private static int wrong = 0;
    private static String sentence = "";

    private static void tell(String what) {
        wrong++;
        System.out.println("\"" + sentence + "\" " + what);
    }

    private record Call(String name, int... a) {
        int on(TinyModels x) {
            return switch (name) {
                case "domain" -> x.domain(a[0]);
                case "token" -> x.token(a[0], a[1]);
                case "drop" -> x.drop();
                case "axiom" -> x.axiom();
                case "retract" -> x.retract(a[0]);
                case "models" -> x.models();
                case "next" -> x.next(a[0]);
                case "isModel" -> x.isModel(a[0]);
                case "shapes" -> x.shapes();
                case "sameShape" -> x.sameShape(a[0], a[1]);
                case "symmetries" -> x.symmetries(a[0]);
                case "forced" -> x.forced(a[0]);
                case "holds" -> x.holds(a[0], a[1]);
                case "lists" -> x.lists(a[0]);
                case "follows" -> x.follows();
                case "agreeing" -> x.agreeing();
                case "alike" -> x.alike();
                case "independent" -> x.independent(a[0]);
                case "smallest" -> x.smallest();
                default -> throw new IllegalArgumentException(name);
            };
        }

        @Override
        public String toString() {
            return name + Arrays.toString(a).replace('[', '(').replace(']', ')');
        }
    }

    /** An object and the calls that were made on it, so that twins of it can be made. */
    private static final class Run {
        private final TinyModels object = new TinyModels();
        private final List<Call> calls = new ArrayList<>();
        // What was seen before the first of the last calls that had to change nothing.
        private List<String> before = null;

        private int answer(Call call) {
            before = null;
            calls.add(call);
            if (calls.size() > MOST_CALLS) {
                throw new IllegalStateException("the test itself makes more than 512 calls");
            }
            return call.on(object);
        }

        private Run twin() {
            Run twin = new Run();
            for (Call call : calls) {
                twin.answer(call);
            }
            twin.before = before;
            return twin;
        }

        private void check(int want, Call call) {
            int got = answer(call);
            if (got != want) {
                int from = Math.max(0, calls.size() - 13);
                tell("after " + calls.subList(from, calls.size() - 1) + ": " + call
                    + " answered " + got + ", due is " + want);
            }
        }

        Run due(int want, String name, int... a) {
            check(want, new Call(name, a));
            return this;
        }

        /** A call that has to answer 'want' and to change nothing. */
        Run unchanged(int want, String name, int... a) {
            List<String> without = before == null ? seen() : before;
            Call call = new Call(name, a);
            check(want, call);
            List<String> with = seen();
            for (int i = 0; i < without.size() || i < with.size(); i++) {
                String one = i < without.size() ? without.get(i) : "nothing";
                String other = i < with.size() ? with.get(i) : "nothing";
                if (!one.equals(other)) {
                    tell("after " + call + ": " + other + ", without it: " + one);
                    break;
                }
            }
            before = without;
            return this;
        }

        Run refused(int want, String name, int... a) {
            if (want >= 0) {
                throw new IllegalArgumentException("a refused call answers less than 0");
            }
            return unchanged(want, name, a);
        }

        /** Puts tokens, given as kind, a, kind, a, .. */
        Run put(int... tokens) {
            for (int i = 0; i < tokens.length; i += 2) {
                Call call = new Call("token", tokens[i], tokens[i + 1]);
                int got = answer(call);
                if (got < 1) {
                    tell("setting up: " + call + " answered " + got);
                }
            }
            return this;
        }

        /** Puts a formula of so many tokens that holds if HAS v does, or does not. */
        Run putLong(int tokens, int v) {
            put(HAS, v);
            for (int i = 1; i < tokens; i++) {
                put(NOT, 0);
            }
            return this;
        }

        Run putAxiom(int... tokens) {
            put(tokens);
            Call call = new Call("axiom");
            int got = answer(call);
            if (got < 1) {
                tell("setting up: " + call + " answered " + got);
            }
            return this;
        }

        private int see(List<String> seen, String name, int... a) {
            Call call = new Call(name, a);
            int got = answer(call);
            seen.add(call + " answered " + got);
            return got;
        }

        /** All that calls on this object would answer now, as far as it tells the state. */
        List<String> seen() {
            List<String> seen = new ArrayList<>();
            // On two twins, as a call that wrongly changes something would
            // hide in the second what it had done before.
            twin().takeApart(seen);
            twin().ask(seen);
            return seen;
        }

        private void ask(List<String> seen) {
            for (String name : List.of("models", "shapes", "follows", "agreeing", "alike", "smallest")) {
                see(seen, name);
            }
            for (int m : new int[] {0, 1, 2, 4, 6, 24, 63, 64, 4095}) {
                see(seen, "next", m);
                see(seen, "isModel", m);
                see(seen, "symmetries", m);
                see(seen, "lists", m);
            }
            for (int i = 0; i < 7; i++) {
                see(seen, "forced", 2 * i);
                see(seen, "independent", i);
            }
        }

        private void takeApart(List<String> seen) {
            see(seen, "domain", 3);
            for (int n = 0; n < 7; n++) {
                seeTop(seen);
            }
            for (int n = 0; n < 7; n++) {
                for (int m : new int[] {0, 7, 1, 9, 16, 80, 4095}) {
                    see(seen, "isModel", m);
                }
                see(seen, "retract", 0);
            }
            see(seen, "models");
            see(seen, "token", HAS, 0);
            see(seen, "axiom");
            see(seen, "models");
        }

        private void seeTop(List<String> seen) {
            for (int m : new int[] {1, 9, 16, 160}) {
                see(seen, "lists", m);
            }
            see(seen, "holds", 5, 5);
            boolean longer = true;
            for (int tokens = 0; tokens < 25 && longer; tokens++) {
                longer = see(seen, "token", NOT, 0) > 0;
            }
            see(seen, "drop");
        }
    }

    private static Run run() {
        return new Run();
    }

    private static Run withDomain(int d) {
        return run().due(last(d) + 1, "domain", d);
    }

    /** Three formulas and two axioms, with some of the interpretations as models. */
    private static Run busy(int d) {
        return withDomain(d)
            .putAxiom(PAIR, 1, PAIR, 3, IMPLIES, 0)
            .putAxiom(PAIR, 0, NOT, 0, SOME, 0)
            .put(PAIR, 7, NOT, 0)
            .put(REACH, 1, SAME, 5, OR, 0)
            .put(HAS, 2, NOT, 0, ALL, 2);
    }

    /** None of the six follows from the others with three elements; the smallest model has two. */
    private static Run withSixAxioms(int d) {
        return withDomain(d)
            .putAxiom(PAIR, 1, PAIR, 3, IMPLIES, 0)
            .putAxiom(PAIR, 0, SOME, 0)
            .putAxiom(HAS, 0, SOME, 0)
            .putAxiom(HAS, 0, PAIR, 0, AND, 0, NOT, 0)
            .putAxiom(SAME, 1, PAIR, 1, OR, 0, HAS, 0, OR, 0)
            .putAxiom(SAME, 1, HAS, 0, HAS, 1, AND, 0, NOT, 0, OR, 0);
    }

    private static Run withSixFormulas(Run x) {
        return x.put(PAIR, 5, NOT, 0).put(PAIR, 1).put(HAS, 1, NOT, 0).put(REACH, 7, SOME, 2).put(SAME, 5).put(PAIR, 4, NOT, 0);
    }

    private static Run full(int d) {
        Run x = withSixAxioms(d);
        return withSixFormulas(x);
    }

    /** States with few and with many formulas and axioms, for each domain. */
    private static List<Run> states() {
        List<Run> result = new ArrayList<>();
        for (int d = 1; d <= 3; d++) {
            result.add(withDomain(d));
            result.add(busy(d));
            result.add(full(d));
        }
        return result;
    }

    private static int last(int d) {
        return d == 1 ? 3 : d == 2 ? 63 : 4095;
    }

    private static int p(int e) {
        return 1 << e;
    }

    private static int r(int d, int e, int f) {
        return 1 << (d + d * e + f);
    }

    private static int list(int x, int y, int z) {
        return x + 3 * y + 9 * z;
    }

    /**
     * Numbers that are not from 'least' to 'most': the next ones, and far ones
     * of which a shift, a sum or a narrow type would lose something.
     */
    private static List<Integer> outside(int least, int most) {
        int[] some = {
            LEAST, LEAST + 1, -65536, -256, -32, least - 2, least - 1, most + 1, most + 2,
            32, 33, 64, 256, 257, 65536, 65537, 1 << 30, MOST - 1, MOST};
        List<Integer> result = new ArrayList<>();
        for (int n : some) {
            if ((n < least || n > most) && !result.contains(n)) {
                result.add(n);
            }
        }
        return result;
    }

    // What it is

    private static void calls512() {
        sentence = "An object is used for at most 512 calls after it has been made";
        Run up = run();
        Run refusing = run();
        Run sizes = run();
        Run asking = run();
        for (int n = 1; n <= MOST_CALLS; n++) {
            up.due(n % 2, n % 2 == 1 ? "token" : "drop", 1, 5);
            if (n < MOST_CALLS) {
                refusing.due(-1, "axiom");
            }
            sizes.due(last(1 + n % 3) + 1, "domain", 1 + n % 3);
            asking.due(64, "models");
        }
        refusing.due(1, "token", HAS, 0);
        Run laws = run();
        for (int n = 1; n <= 170; n++) {
            laws.due(1, "token", HAS, 0).due(1, "axiom").due(0, "retract", 0);
        }
        laws.due(64, "models").due(-1, "retract", 0);
        Run stack = run();
        for (int n = 1; n <= 42; n++) {
            for (int high = 1; high <= 6; high++) {
                stack.due(high, "token", REACH, high);
            }
            for (int left = 5; left >= 0; left--) {
                stack.due(left, "drop");
            }
        }
        for (int n = 1; n <= 6; n++) {
            stack.due(n, "token", HAS, 0);
        }
        stack.due(-3, "token", HAS, 0).due(4, "lists", 1);
    }

    private static void each512th() {
        sentence = "An object is used for at most 512 calls after it has been made";
        Object[][] answers = {
            {4096, "domain", 3}, {-1, "domain", 4}, {3, "token", HAS, 1}, {-1, "token", HAS, 3}, {2, "token", NOT, 0},
            {1, "token", AND, 0}, {1, "drop"}, {2, "axiom"}, {0, "retract", 0}, {-1, "retract", 1}, {32, "models"},
            {7, "next", 6}, {-2, "next", 63}, {1, "isModel", 63}, {0, "isModel", 8}, {-1, "isModel", 64}, {20, "shapes"},
            {1, "sameShape", 1, 2}, {2, "symmetries", 63}, {2, "forced", 5}, {-1, "forced", 6}, {1, "holds", 2, 3},
            {-1, "holds", 2, 2}, {4, "lists", 2}, {0, "follows"}, {8, "agreeing"}, {0, "alike"}, {1, "independent", 0},
            {-1, "independent", 1}, {1, "smallest"}};
        for (Object[] row : answers) {
            Run x = run().putAxiom(PAIR, 1, PAIR, 3, IMPLIES, 0).put(HAS, 0, HAS, 1);
            while (x.calls.size() < MOST_CALLS - 2) {
                x.due(3, "token", PAIR, 8).due(2, "drop");
            }
            while (x.calls.size() < MOST_CALLS - 1) {
                x.due(64, "domain", 2);
            }
            int[] a = new int[row.length - 2];
            for (int i = 0; i < a.length; i++) {
                a[i] = (Integer) row[i + 2];
            }
            x.due((Integer) row[0], (String) row[1], a);
        }
    }

    /** What these calls answer is free, but no call may throw or fail to end. */
    private static void callsBeyond512() {
        sentence = "what later calls answer is free.";
        TinyModels x = new TinyModels();
        int[] odd = {LEAST, -1, 0, 1, 2, 3, 5, 26, 63, MOST};
        for (int n = 0; n < 400; n++) {
            int a = odd[n % odd.length];
            int b = odd[n / odd.length % odd.length];
            x.token(n % 14 - 1, n % 11 - 1);
            for (String name : List.of("token", "axiom", "holds", "sameShape", "lists", "next", "forced", "isModel",
                    "symmetries", "independent", "retract", "domain", "alike", "models", "follows", "agreeing",
                    "shapes", "smallest")) {
                new Call(name, a, b).on(x);
            }
            if (n % 3 == 0) {
                x.drop();
            }
        }
    }

    // Terms

    private static void digitsOfNumbers() {
        sentence = "Its NUMBER has the binary digit e for P of element e,"
            + " and the binary digit d + d * e + f for R of the pair (e, f)";
        for (int d = 1; d <= 3; d++) {
            Run has = withDomain(d).put(HAS, 0);
            Run pair = withDomain(d).put(PAIR, 1);
            for (int e = 0; e < d; e++) {
                for (int g = 0; g < d; g++) {
                    has.due(e == g ? 1 : 0, "holds", p(g), e);
                    has.due(e == g ? 0 : 1, "holds", last(d) - p(g), e);
                }
                for (int f = 0; f < d; f++) {
                    has.due(0, "holds", r(d, e, f), e);
                    pair.due(0, "holds", p(e), list(e, f, 0));
                    pair.due(1, "holds", r(d, e, f), list(e, f, 0));
                    pair.due(0, "holds", last(d) - r(d, e, f), list(e, f, 0));
                    pair.due(d, "lists", r(d, e, f));
                }
            }
        }
    }

    private static void numbersOfInterpretations() {
        sentence = "it is from 0 to 2^(d + d * d) - 1.";
        int[] counts = {0, 4, 64, 4096};
        for (int d = 1; d <= 3; d++) {
            Run x = run().due(counts[d], "domain", d).put(SAME, 0);
            for (int m : new int[] {0, 1, last(d) - 1, last(d)}) {
                x.due(1, "isModel", m).due(1, "sameShape", m, m).due(1, "holds", m, 0).due(d * d * d, "lists", m);
            }
            x.due(counts[d], "models").due(0, "next", -1).due(-2, "next", counts[d] - 1);
            for (int m : new int[] {-1, counts[d]}) {
                x.due(-1, "isModel", m).due(-1, "symmetries", m).due(-1, "holds", m, 0).due(-1, "lists", m);
                x.due(-1, "sameShape", m, 0).due(-1, "sameShape", 0, m);
            }
        }
    }

    private static void variablesOfPairs() {
        sentence = "v = a / 3 (rounded down), w = the rest of a on division by 3";
        for (int a = 0; a < 9; a++) {
            Run pair = withDomain(3).put(PAIR, a);
            Run same = withDomain(3).put(SAME, a);
            Run reach = withDomain(3).put(REACH, a);
            for (int list = 0; list < 27; list++) {
                int[] at = {list % 3, list / 3 % 3, list / 9};
                int e = at[a / 3];
                int f = at[a % 3];
                int alone = r(3, e, f);
                int other = e == f ? 0 : r(3, f, e);
                pair.due(1, "holds", alone, list).due(0, "holds", 4095 - alone, list).due(0, "holds", other, list);
                same.due(e == f ? 1 : 0, "holds", alone, list);
                reach.due(1, "holds", alone, list).due(e == f ? 1 : 0, "holds", other, list);
            }
        }
    }

    private static void sameElementReached() {
        sentence = "they have the same element, or one comes from the element of v to that of w"
            + " by one or more pairs of R, one after the other";
        for (int d = 1; d <= 3; d++) {
            Run x = withDomain(d).put(REACH, 1);
            for (int e = 0; e < d; e++) {
                for (int f = 0; f < d; f++) {
                    int at = list(e, f, 0);
                    x.due(e == f ? 1 : 0, "holds", 0, at);
                    x.due(1, "holds", r(d, e, f), at);
                    x.due(e == f ? 1 : 0, "holds", e == f ? 0 : r(d, f, e), at);
                    x.due(e == f ? 1 : 0, "holds", p(e) | p(f) | r(d, e, e) | r(d, f, f), at);
                }
            }
        }
        Run x = withDomain(3).put(REACH, 1);
        for (int e = 0; e < 3; e++) {
            for (int step = 1; step <= 2; step++) {
                int via = (e + step) % 3;
                int f = (e + 2 * step) % 3;
                int chain = r(3, e, via) | r(3, via, f);
                x.due(1, "holds", chain, list(e, f, 0));
                x.due(0, "holds", chain, list(f, e, 0));
                x.due(0, "holds", chain - r(3, e, via), list(e, f, 0));
                x.due(0, "holds", chain - r(3, via, f), list(e, f, 0));
                x.due(1, "holds", chain | r(3, f, e), list(f, via, 0));
                x.due(0, "holds", 4095 - r(3, e, f) - r(3, e, via), list(e, f, 0));
                x.due(1, "holds", 4095 - r(3, e, f), list(e, f, 0));
            }
        }
    }

    private static void bothOrNeither() {
        sentence = "F or G holds (or both) / F does not hold or G holds / both hold or neither does";
        int[] or = {0, 1, 1, 1};
        int[] and = {0, 0, 0, 1};
        int[] implies = {1, 1, 0, 1};
        int[] iff = {1, 0, 0, 1};
        for (int row = 0; row < 4; row++) {
            // F is HAS of element 0, G is HAS of element 1.
            int m = (row / 2) * p(0) + (row % 2) * p(1);
            run().put(HAS, 0, NOT, 0).due(1 - row / 2, "holds", m, 3);
            run().put(HAS, 0, HAS, 1, AND, 0).due(and[row], "holds", m, 3);
            run().put(HAS, 0, HAS, 1, OR, 0).due(or[row], "holds", m, 3);
            run().put(HAS, 0, HAS, 1, IMPLIES, 0).due(implies[row], "holds", m, 3);
            run().put(HAS, 0, HAS, 1, IFF, 0).due(iff[row], "holds", m, 3);
        }
    }

    /** For how many elements something holds, for the quantifier that asks for 'needed' of d. */
    private static void quantifier(int kind, int k) {
        for (int d = 1; d <= 3; d++) {
            int needed = kind == ALL ? d : kind == SOME ? 1 : k;
            for (int v = 0; v < 3; v++) {
                int a = kind == MANY ? v + 3 * (k - 2) : v;
                Run has = withDomain(d).put(HAS, v, kind, a);
                Run hasNot = withDomain(d).put(HAS, v, NOT, 0, kind, a);
                for (int m = 0; m < 1 << d; m++) {
                    int owners = Integer.bitCount(m);
                    has.due(owners >= needed ? d * d * d : 0, "lists", m);
                    has.due(owners >= needed ? d * d * d : 0, "lists", last(d) - (1 << d) + 1 + m);
                    hasNot.due(d - owners >= needed ? d * d * d : 0, "lists", m);
                }
                // Where the variable isn't spoken of, all d elements do or none.
                Run other = withDomain(d).put(HAS, (v + 1) % 3, kind, a);
                other.due(d >= needed ? d * d : 0, "lists", 1).due(0, "lists", 0);
            }
        }
    }

    private static void everyElement() {
        sentence = "F holds for every element given to v in place of what it has";
        quantifier(ALL, 0);
    }

    private static void atLeastOneElement() {
        sentence = "F holds for at least one element given to v in place of what it has";
        quantifier(SOME, 0);
    }

    private static void atLeastKElements() {
        sentence = "F holds for at least k elements given to v in place of what it has";
        quantifier(MANY, 2);
        quantifier(MANY, 3);
    }

    /** Tokens for: variable v has the element e, where P is of 0 alone and (1, 1) the one pair of R. */
    private static void putIsElement(Run x, int v, int e) {
        if (e == 0) {
            x.put(HAS, v);
        } else if (e == 1) {
            x.put(PAIR, 4 * v);
        } else {
            x.put(HAS, v, PAIR, 4 * v, OR, 0, NOT, 0);
        }
    }

    private static void putIsList(Run x, int list) {
        putIsElement(x, 0, list % 3);
        putIsElement(x, 1, list / 3 % 3);
        x.put(AND, 0);
        putIsElement(x, 2, list / 9);
        x.put(AND, 0);
    }

    private static boolean isInside(int list, int d) {
        return list % 3 < d && list / 3 % 3 < d && list / 9 < d;
    }

    /** The axioms of the shape of which putIsElement speaks. */
    private static void putShapeAxioms(Run x) {
        x.putAxiom(HAS, 0, HAS, 1, AND, 0, SAME, 1, IMPLIES, 0)
            .putAxiom(HAS, 0, SOME, 0)
            .putAxiom(PAIR, 1, SAME, 1, HAS, 0, NOT, 0, AND, 0, IMPLIES, 0)
            .putAxiom(PAIR, 0, SOME, 0)
            .putAxiom(PAIR, 0, PAIR, 4, AND, 0, SAME, 1, IMPLIES, 0);
    }

    private static void validForEveryList() {
        sentence = "A formula is VALID in an interpretation if it holds there whatever elements the variables have.";
        for (int d = 2; d <= 3; d++) {
            int m = p(0) | r(d, 1, 1);
            for (int list = 0; list < 27; list++) {
                if (isInside(list, d)) {
                    Run x = withDomain(d);
                    putShapeAxioms(x);
                    x.due(d * (d - 1), "models").due(1, "shapes").due(1, "isModel", m);
                    putIsList(x, list);
                    x.put(NOT, 0).due(d * d * d - 1, "lists", m).due(0, "holds", m, list);
                    x.due(0, "agreeing").due(0, "follows").due(6, "axiom").due(0, "isModel", m).due(0, "models");
                    x.due(5, "retract", 5).put(SAME, 0).due(d * (d - 1), "agreeing").due(1, "follows");
                    x.due(6, "axiom").due(1, "isModel", m).due(d * (d - 1), "models");
                }
            }
        }
        for (int d = 1; d <= 3; d++) {
            Run x = withDomain(d).put(HAS, 0, HAS, 1, OR, 0, HAS, 2, OR, 0);
            x.due(1 << d * d, "agreeing").due(1, "axiom").due(1 << d * d, "models").due(1, "isModel", (1 << d) - 1);
            for (int e = 0; e < d; e++) {
                x.due(0, "isModel", (1 << d) - 1 - p(e)).due(0, "isModel", last(d) - p(e));
            }
        }
    }

    private static void sixAxiomsAtMost() {
        sentence = "AXIOMS are formulas, numbered 0, 1, 2, .., at most 6.";
        for (int d = 1; d <= 3; d++) {
            Run x = withDomain(d);
            for (int n = 0; n < 6; n++) {
                x.due(-1, "independent", n).put(SAME, 4 * (n % 3)).due(n + 1, "axiom").due(0, "independent", n);
            }
            x.refused(-1, "independent", 6).refused(-1, "retract", 6);
            x.put(HAS, 0).refused(-2, "axiom").due(last(d) + 1, "models");
        }
    }

    private static void allAxiomsAreValid() {
        sentence = "A MODEL is an interpretation (with the domain as it is now) in which all axioms are valid.";
        withDomain(1).due(4, "models").due(1, "isModel", 0).due(1, "isModel", 3);
        // Of six axioms one alone is broken, the first, the last or one between.
        for (int broken = 0; broken < 6; broken++) {
            Run x = run();
            for (int n = 0; n < 6; n++) {
                if (n == broken) {
                    x.putAxiom(HAS, n % 3);
                } else {
                    x.putAxiom(SAME, 0);
                }
            }
            x.due(16, "models").due(0, "isModel", 62).due(0, "isModel", 61).due(1, "isModel", 63).due(1, "isModel", 3);
            x.due(1, "independent", broken).due(4096, "domain", 3).due(0, "isModel", 3).due(1, "isModel", 7);
            x.due(512, "models").due(4, "domain", 1).due(1, "isModel", 1).due(2, "models");
            x.due(64, "domain", 2).due(5, "retract", broken).due(64, "models").due(1, "isModel", 62);
        }
    }

    private static void mapsOntoThemselves() {
        sentence = "some one-to-one map of the elements onto themselves takes one to the other";
        int round = r(3, 0, 1) | r(3, 1, 2) | r(3, 2, 0);
        int back = r(3, 1, 0) | r(3, 2, 1) | r(3, 0, 2);
        withDomain(1).due(1, "sameShape", 3, 3).due(0, "sameShape", 1, 2).due(0, "sameShape", 0, 3);
        withDomain(2).due(1, "sameShape", p(0), p(1)).due(0, "sameShape", p(0), p(0) | p(1));
        // All elements to one would take these to each other, but isn't one-to-one.
        withDomain(2).due(0, "sameShape", r(2, 0, 0), r(2, 0, 0) | r(2, 1, 1));
        withDomain(3).due(0, "sameShape", 7, 1).due(0, "sameShape", 1, 7).due(0, "sameShape", 3, 1);
        withDomain(3).due(1, "sameShape", p(0), p(2)).due(1, "sameShape", 3, 6).due(1, "sameShape", 5, 6);
        withDomain(3).due(1, "sameShape", round, back).due(0, "sameShape", round, r(3, 0, 1) | r(3, 1, 2) | r(3, 0, 2));
        // P or R alone fit, but not by the same map.
        withDomain(2).due(0, "sameShape", p(0) | r(2, 0, 1), p(1) | r(2, 0, 1));
        withDomain(2).due(1, "sameShape", p(0) | r(2, 0, 1), p(1) | r(2, 1, 0));
        // Each of the six maps is the one that is needed.
        int[][] maps = {{0, 1, 2}, {0, 2, 1}, {1, 0, 2}, {1, 2, 0}, {2, 0, 1}, {2, 1, 0}};
        int mark = p(0) | r(3, 1, 1) | r(3, 2, 0);
        for (int[] to : maps) {
            int moved = p(to[0]) | r(3, to[1], to[1]) | r(3, to[2], to[0]);
            int turned = p(to[0]) | r(3, to[1], to[1]) | r(3, to[0], to[2]);
            withDomain(3).due(1, "sameShape", mark, moved).due(1, "sameShape", moved, mark);
            withDomain(3).due(0, "sameShape", mark, turned).due(0, "sameShape", turned, mark);
        }
    }

    private static void refusedChangesNothing() {
        sentence = "A refused call changes nothing.";
        for (int d = 1; d <= 3; d++) {
            full(d).refused(-1, "domain", 0).refused(-1, "domain", 4).refused(-1, "token", 12, 0)
                .refused(-1, "token", HAS, 3).refused(-3, "token", HAS, 0).refused(-2, "axiom").refused(-1, "retract", 6)
                .refused(-1, "retract", -1).refused(-1, "isModel", last(d) + 1).refused(-1, "forced", d + d * d)
                .refused(-1, "holds", 0, 27).refused(-1, "holds", -1, 0).refused(-1, "lists", -1)
                .refused(-1, "sameShape", 0, -1).refused(-1, "symmetries", -1).refused(-1, "independent", 6);
            withSixAxioms(d).refused(-1, "drop").refused(-1, "axiom").refused(-2, "token", NOT, 0)
                .refused(-2, "token", IFF, 0).refused(-1, "holds", 0, 0).refused(-1, "lists", 0).refused(-1, "follows")
                .refused(-1, "agreeing").refused(-1, "alike");
            busy(d).putLong(24, 1).refused(-4, "token", NOT, 0).refused(-4, "token", AND, 0).refused(-4, "token", SOME, 0);
        }
    }

    /** Calls of every kind, with arguments at the ends of what is allowed and next to them. */
    private static List<Call> everyCall(int d) {
        List<Call> result = new ArrayList<>();
        for (String name : List.of("drop", "axiom", "models", "shapes", "follows", "agreeing", "alike", "smallest")) {
            result.add(new Call(name));
        }
        int last = last(d);
        for (int n : new int[] {LEAST, -1, 0, 5, 6, d + d * d - 1, d + d * d, last, last + 1, MOST}) {
            for (String name : List.of("domain", "retract", "next", "isModel", "symmetries", "forced", "lists", "independent")) {
                result.add(new Call(name, n));
            }
            result.add(new Call("sameShape", n, 0));
            result.add(new Call("sameShape", 0, n));
            result.add(new Call("holds", n, 0));
        }
        for (int list : new int[] {-1, 0, 1, 2, 3, 6, 9, 13, 18, 26, 27}) {
            result.add(new Call("holds", 0, list));
        }
        for (int kind = -1; kind <= 12; kind++) {
            for (int a : new int[] {-1, 0, 2, 3, 5, 6, 8, 9}) {
                result.add(new Call("token", kind, a));
            }
        }
        return result;
    }

    private static boolean isQuestion(Call call) {
        return !List.of("domain", "token", "drop", "axiom", "retract").contains(call.name());
    }

    private static void sweep(Run x, int d) {
        x.before = x.seen();
        for (Call call : everyCall(d)) {
            // Whether it is refused, and with what answer, is tested elsewhere.
            int answer = x.twin().answer(call);
            if (answer < 0 || isQuestion(call)) {
                x.twin().unchanged(answer, call.name(), call.a());
            }
        }
    }

    private static void everyRefusedCall() {
        sentence = "A refused call changes nothing. The calls below change nothing.";
        for (int d = 1; d <= 3; d++) {
            sweep(withDomain(d), d);
            sweep(busy(d), d);
            sweep(full(d), d);
            sweep(withSixAxioms(d), d);
            sweep(withSixFormulas(withDomain(d)), d);
            sweep(withSixAxioms(d).putLong(23, 1).putLong(24, 2), d);
            sweep(withDomain(d).putAxiom(SAME, 0, NOT, 0).putLong(24, 1), d);
        }
    }

    private static void orderOfTests() {
        sentence = "The tests of a call are made in the order in which they are named.";
        // -1 before -2, -3 and -4.
        run().refused(-1, "token", 12, 9).refused(-1, "token", ALL, 3).refused(-1, "token", SOME, -1)
            .refused(-1, "token", MANY, 6).refused(-2, "token", MANY, 5).refused(-2, "token", NOT, 9);
        withSixFormulas(run()).refused(-1, "token", HAS, 3).refused(-1, "token", PAIR, 9).refused(-1, "token", SAME, -1)
            .refused(-1, "token", REACH, 9).refused(-3, "token", REACH, 8).refused(-3, "token", HAS, 2);
        run().putLong(24, 0).refused(-1, "token", ALL, 3).refused(-1, "token", SOME, 3).refused(-1, "token", MANY, 6)
            .refused(-4, "token", MANY, 5);
        // -2 before -4.
        run().putLong(24, 0).refused(-2, "token", AND, 0).refused(-2, "token", OR, 0).refused(-2, "token", IMPLIES, 0)
            .refused(-2, "token", IFF, 0).put(HAS, 1).refused(-4, "token", AND, 0);
        // axiom: -1 before -2.
        withSixAxioms(2).refused(-1, "axiom").put(HAS, 0).refused(-2, "axiom");
        // forced: -1 before 3.
        run().putAxiom(SAME, 0, NOT, 0).refused(-1, "forced", 6).refused(-1, "forced", -1).unchanged(3, "forced", 5);
        // More than one test that answers -1.
        run().refused(-1, "holds", 64, 27).refused(-1, "holds", -1, -1).refused(-1, "lists", 64);
        run().put(HAS, 0).refused(-1, "holds", 64, 27).refused(-1, "holds", -1, 2).refused(-1, "sameShape", 64, -1);
    }

    private static void numbersOfLists() {
        sentence = "An element list (x, y, z) is written as the number x + 3 * y + 9 * z.";
        for (int d = 2; d <= 3; d++) {
            int m = p(0) | r(d, 1, 1);
            for (int at = 0; at < 27; at++) {
                if (isInside(at, d)) {
                    Run x = withDomain(d);
                    putIsList(x, at);
                    x.due(1, "lists", m);
                    for (int other = 0; other < 27; other++) {
                        x.due(isInside(other, d) ? other == at ? 1 : 0 : -1, "holds", m, other);
                    }
                }
            }
        }
    }

    private static void askingChangesNothing() {
        sentence = "The calls below change nothing.";
        for (int d = 2; d <= 3; d++) {
            boolean two = d == 2;
            busy(d).unchanged(two ? 24 : 448, "models").unchanged(0, "next", -1).unchanged(1, "isModel", 0)
                .unchanged(two ? 14 : 100, "shapes").unchanged(1, "sameShape", 1, 2)
                .unchanged(two ? 2 : 6, "symmetries", 0).unchanged(2, "forced", 0).unchanged(1, "holds", 0, 0)
                .unchanged(d * d * d, "lists", 0).unchanged(0, "follows").unchanged(two ? 6 : 56, "agreeing")
                .unchanged(0, "alike").unchanged(1, "independent", 0).unchanged(1, "smallest");
        }
        // The search for the smallest domain leaves the domain as it is.
        for (int d = 1; d <= 3; d++) {
            withDomain(d).putAxiom(SAME, 0, MANY, 3).put(HAS, 0).unchanged(3, "smallest")
                .due(d == 3 ? 4096 : 0, "models").due(-1, "isModel", last(d) + 1);
        }
    }

    private static void topOfEmptyStack() {
        sentence = "-1 if one is asked for and the stack is empty";
        for (int d = 1; d <= 3; d++) {
            for (Run x : List.of(withDomain(d), withSixAxioms(d))) {
                x.refused(-1, "holds", 0, 0).refused(-1, "lists", 0).refused(-1, "follows").refused(-1, "agreeing");
                // No top is asked for by these.
                x.due(1, "sameShape", 0, 0).due(d == 1 ? 1 : d * (d - 1), "symmetries", 0);
                int before = x.answer(new Call("models"));
                x.put(SAME, 0).due(1, "holds", 0, 0).due(d * d * d, "lists", 0).due(1, "follows").due(before, "agreeing");
                x.due(0, "drop").due(-1, "holds", 0, 0).due(-1, "lists", 0).due(-1, "follows").due(-1, "agreeing");
                x.due(before, "models");
            }
        }
        // An axiom is no longer on the stack.
        run().put(SAME, 0).due(64, "agreeing").due(1, "axiom").due(-1, "agreeing").due(-1, "follows")
            .due(-1, "lists", 0).due(-1, "holds", 0, 0).due(-1, "alike");
    }

    private static void noInterpretationsNumber() {
        sentence = "-1 if a number is asked for that is no interpretation's.";
        for (int d = 1; d <= 3; d++) {
            Run x = busy(d);
            for (int m : outside(0, last(d))) {
                x.refused(-1, "isModel", m).refused(-1, "sameShape", m, 0).refused(-1, "sameShape", 0, m);
                x.refused(-1, "sameShape", m, m).refused(-1, "symmetries", m).refused(-1, "holds", m, 0);
                x.refused(-1, "lists", m);
            }
            int all = last(d);
            x.due(0, "isModel", all).due(1, "sameShape", all, all).due(d == 1 ? 1 : d * (d - 1), "symmetries", all);
            x.due(0, "holds", all, 0).due(0, "lists", all).due(1, "isModel", 0).due(1, "holds", 0, 0);
        }
        // What is a number with three elements is none with fewer.
        withDomain(3).due(1, "isModel", 64).due(64, "domain", 2).due(-1, "isModel", 64).due(1, "isModel", 63)
            .due(4, "domain", 1).due(-1, "isModel", 63).due(-1, "isModel", 4).due(1, "isModel", 3);
    }

    // Promises

    private static void newObject() {
        sentence = "1: d is 2; no formulas, no axioms.";
        run().due(64, "models").due(1, "isModel", 63).due(-1, "isModel", 64).due(2, "symmetries", 0).due(36, "shapes");
        run().due(2, "forced", 5).due(-1, "forced", 6);
        run().refused(-1, "drop").refused(-1, "axiom").refused(-1, "follows").refused(-2, "token", NOT, 0);
        run().due(1, "token", HAS, 0).due(1, "axiom").due(0, "retract", 0);
        run().refused(-1, "retract", 0).refused(-1, "independent", 0);
        Run other = full(3);
        run().due(64, "models").due(-1, "drop").due(-1, "retract", 0);
        other.due(5, "drop").due(5, "retract", 0);
    }

    private static void domainOfOneToThree() {
        sentence = "2: d is not 1 to 3: -1.";
        for (Run x : states()) {
            for (int d : outside(1, 3)) {
                x.refused(-1, "domain", d);
            }
        }
        run().due(4, "domain", 1).due(4, "models").due(64, "domain", 2).due(64, "models")
            .due(4096, "domain", 3).due(4096, "models").due(4096, "domain", 3).due(4, "domain", 1).due(4, "domain", 1);
    }

    private static void formulasAndAxiomsStay() {
        sentence = "2: The domain becomes one of d elements; formulas and axioms stay.";
        for (int from = 1; from <= 3; from++) {
            for (int to = 1; to <= 3; to++) {
                Run moved = full(from).due(last(to) + 1, "domain", to);
                Run there = full(to);
                if (!moved.seen().equals(there.seen())) {
                    tell("from " + from + " to " + to + " elements");
                }
            }
        }
    }

    private static void tokenKinds() {
        sentence = "3: kind is not 0 to 11: -1";
        for (Run x : List.of(run(), busy(2), full(3))) {
            for (int kind : outside(0, 11)) {
                x.refused(-1, "token", kind, 0);
            }
        }
        run().put(HAS, 0).due(2, "token", 0, 0).due(2, "token", 11, 0);
    }

    private static void tokenArguments(int kind, int most, String words) {
        sentence = "3: a is not " + words + ": -1";
        int takes = kind <= REACH ? 0 : 1;
        for (int a = 0; a <= most; a++) {
            run().put(HAS, 0).due(2 - takes, "token", kind, a);
        }
        for (int a : outside(0, most)) {
            run().refused(-1, "token", kind, a).put(HAS, 0).refused(-1, "token", kind, a).due(0, "drop");
            busy(3).refused(-1, "token", kind, a);
        }
    }

    private static void tokenArguments() {
        for (int kind : new int[] {HAS, ALL, SOME}) {
            tokenArguments(kind, 2, "0 to 2 for HAS, ALL and SOME (" + kind + ")");
        }
        for (int kind : new int[] {PAIR, SAME, REACH}) {
            tokenArguments(kind, 8, "0 to 8 for PAIR, SAME and REACH (" + kind + ")");
        }
        tokenArguments(MANY, 5, "0 to 5 for MANY");
    }

    private static void argumentNotLookedAt() {
        sentence = "3: (otherwise a is not looked at)";
        for (int a : new int[] {LEAST, LEAST + 1, -256, -1, 0, 1, 2, 3, 8, 9, 11, 256, MOST - 1, MOST}) {
            run().put(HAS, 0).due(1, "token", NOT, a).due(0, "holds", 1, 0).due(1, "holds", 0, 0);
            for (int kind = AND; kind <= IFF; kind++) {
                Run x = run().put(HAS, 0, HAS, 1).due(1, "token", kind, a);
                // Element 0 has P, element 1 has not: F holds, G does not.
                x.due(kind == OR ? 1 : 0, "holds", 1, 3).due(kind == AND || kind == OR ? 0 : 1, "holds", 0, 3);
                x.due(1, "holds", 3, 3).due(0, "drop");
            }
            run().refused(-2, "token", NOT, a).refused(-2, "token", IFF, a);
        }
    }

    private static void fewerThanItTakes() {
        sentence = "3: The stack has fewer formulas than it takes: -2";
        for (int d = 1; d <= 3; d++) {
            for (int kind = NOT; kind <= MANY; kind++) {
                boolean two = kind >= AND && kind <= IFF;
                // Axioms and formulas that were dropped are not on the stack.
                withDomain(d).refused(-2, "token", kind, 0);
                withSixAxioms(d).refused(-2, "token", kind, 0);
                withDomain(d).put(HAS, 0, HAS, 1).due(1, "drop").due(0, "drop").refused(-2, "token", kind, 0);
                Run one = withDomain(d).put(HAS, 1);
                if (two) {
                    one.refused(-2, "token", kind, 0).due(2, "token", HAS, 0);
                }
                one.due(1, "token", kind, 0);
            }
            for (int kind = HAS; kind <= REACH; kind++) {
                withDomain(d).due(1, "token", kind, 0);
            }
        }
    }

    private static void sixOnTheStack() {
        sentence = "3: it takes none and the stack has 6: -3";
        for (int kind = HAS; kind <= REACH; kind++) {
            Run five = full(2).due(5, "drop").due(6, "token", kind, 0);
            five.refused(-3, "token", kind, 0).due(5, "drop").due(6, "token", kind, 1).refused(-3, "token", kind, 1);
            full(3).refused(-3, "token", kind, 2).due(5, "drop").due(4, "drop").due(5, "token", kind, 0);
        }
        for (int kind = NOT; kind <= MANY; kind++) {
            boolean two = kind >= AND && kind <= IFF;
            full(2).due(two ? 5 : 6, "token", kind, 0).due(two ? 6 : -3, "token", HAS, 0);
        }
        // The sixth formula may have all its tokens, and be made an axiom.
        withSixFormulas(run()).due(1, "axiom").due(6, "token", HAS, 0).refused(-3, "token", HAS, 0);
        withSixFormulas(run()).due(5, "drop").putLong(24, 0).refused(-3, "token", HAS, 0).refused(-4, "token", NOT, 0);
    }

    private static void moreThan24TokensOfOne() {
        sentence = "3: the new formula would have more than 24 tokens: -4 (takes one)";
        for (int[] token : new int[][] {{NOT, 0}, {ALL, 0}, {ALL, 2}, {SOME, 0}, {SOME, 2}, {MANY, 0}, {MANY, 5}}) {
            run().putLong(22, 1).due(1, "token", token).due(1, "token", token).refused(-4, "token", token);
            run().putLong(23, 1).due(1, "token", token).refused(-4, "token", token);
            run().putLong(24, 1).refused(-4, "token", token).due(4, "lists", 1).due(2, "token", HAS, 0);
        }
    }

    private static void moreThan24TokensOfTwo() {
        sentence = "3: the new formula would have more than 24 tokens: -4 (takes two)";
        for (int kind = AND; kind <= IFF; kind++) {
            for (int f = 1; f <= 24; f++) {
                for (int g : new int[] {1, 22 - f, 23 - f, 24 - f, 25 - f, 24}) {
                    if (g >= 1 && g <= 24) {
                        Run x = run().put(SAME, 1).putLong(f, 0).putLong(g, 1);
                        if (f + g + 1 > 24) {
                            x.refused(-4, "token", kind, 0).due(2, "drop").due(1, "drop");
                        } else {
                            x.due(2, "token", kind, 0);
                            x.due(f + g + 1 == 24 ? -4 : 2, "token", NOT, 0);
                        }
                    }
                }
            }
        }
        // A formula of 24 tokens put together from two is what they say.
        for (int f = 1; f <= 22; f++) {
            Run x = run().putLong(f, 0).putLong(23 - f, 1).due(1, "token", AND, 0);
            // F is HAS 0 or its contrary, G is HAS 1 or its contrary.
            int zero = f % 2 == 1 ? 1 : 0;
            int one = (23 - f) % 2 == 1 ? 1 : 0;
            x.due(1, "holds", zero * p(0) + one * p(1), 3).due(0, "holds", (1 - zero) * p(0) + one * p(1), 3);
            x.due(0, "holds", zero * p(0) + (1 - one) * p(1), 3).refused(-4, "token", NOT, 0);
        }
    }

    private static void as24TokensWerePut() {
        sentence = "a formula has as many tokens as were put for it, at most 24.";
        // What was dropped, was made an axiom or stands below counts no more.
        run().putLong(24, 0).due(0, "drop").putLong(24, 1).refused(-4, "token", NOT, 0);
        run().putLong(24, 0).due(1, "axiom").putLong(24, 1).refused(-4, "token", NOT, 0);
        run().putLong(24, 0).due(1, "axiom").due(0, "retract", 0).putLong(23, 1).due(1, "token", NOT, 0);
        run().putLong(24, 0).putLong(24, 1).refused(-4, "token", NOT, 0).due(1, "drop").refused(-4, "token", NOT, 0);
        run().putLong(11, 0).putLong(11, 1).due(1, "token", AND, 0).due(1, "token", NOT, 0).refused(-4, "token", NOT, 0);
        // Six formulas and six axioms of 24 tokens each, one beside the other.
        Run x = withDomain(3);
        for (int n = 0; n < 6; n++) {
            x.put(HAS, n % 3, SOME, n % 3);
            for (int t = 2; t < 24; t++) {
                x.put(NOT, 0);
            }
            x.due(n + 1, "axiom");
        }
        for (int n = 0; n < 6; n++) {
            x.putLong(n % 2 == 0 ? 24 : 23, n % 3);
        }
        x.refused(-3, "token", HAS, 0).refused(-2, "axiom").due(7 * 512, "models").due(0, "isModel", 8);
        for (int n = 5; n >= 0; n--) {
            x.due(n % 2 == 0 ? 18 : 9, "lists", 1).due(n, "drop");
        }
        for (int n = 5; n >= 0; n--) {
            x.due(n, "retract", n).due(n == 0 ? 4096 : 7 * 512, "models");
        }
    }

    private static void tokenAnswers() {
        sentence = "3: Else answers how many formulas are on the stack then.";
        Run x = run();
        for (int n = 1; n <= 6; n++) {
            x.due(n, "token", n % 4, n % 3);
        }
        for (int n = 6; n >= 1; n--) {
            x.due(n, "token", n % 2 == 0 ? NOT : ALL, 0);
            x.due(n > 1 ? n - 1 : -2, "token", AND + n % 4, 0);
        }
        x.due(1, "token", SOME, 1).due(1, "token", MANY, 0);
    }

    private static void dropOfEmptyStack() {
        sentence = "4: The stack is empty: -1. Else answers how many are left.";
        for (int d = 1; d <= 3; d++) {
            withDomain(d).refused(-1, "drop").due(1, "token", HAS, 0).due(0, "drop").refused(-1, "drop");
            withSixAxioms(d).refused(-1, "drop").due(1, "token", HAS, 0).due(0, "drop").refused(-1, "drop");
            Run x = full(d);
            for (int left = 5; left >= 0; left--) {
                x.due(left, "drop");
            }
            x.refused(-1, "drop").due(1, "token", HAS, 0);
        }
        run().put(HAS, 0, HAS, 1, AND, 0).due(0, "drop").refused(-1, "drop");
        run().put(HAS, 0).due(1, "axiom").refused(-1, "drop");
        run().put(HAS, 0, NOT, 0, HAS, 0).due(1, "drop").due(8, "lists", 0).due(0, "drop").due(-1, "lists", 0);
    }

    private static void axiomOfEmptyStack() {
        sentence = "5: The stack is empty: -1";
        for (int d = 1; d <= 3; d++) {
            withDomain(d).refused(-1, "axiom").due(1, "token", HAS, 0).due(1, "axiom").refused(-1, "axiom");
            withDomain(d).put(HAS, 0, PAIR, 0).due(1, "axiom").due(2, "axiom").refused(-1, "axiom");
            withDomain(d).put(HAS, 0).due(0, "drop").refused(-1, "axiom");
            withSixAxioms(d).refused(-1, "axiom");
        }
    }

    private static void sixAxioms() {
        sentence = "5: there are 6 axioms: -2.";
        for (int d = 1; d <= 3; d++) {
            Run x = withDomain(d);
            for (int n = 1; n <= 6; n++) {
                x.due(1, "token", SAME, 0).due(n, "axiom");
            }
            x.put(HAS, 0, NOT, 0).refused(-2, "axiom").due(d * d * d, "lists", 0).due(last(d) + 1, "models");
            x.due(5, "retract", 0).due(6, "axiom").due(1 << d * d, "models").due(-1, "drop");
            x.put(HAS, 0).refused(-2, "axiom").due(5, "retract", 5).due(6, "axiom").refused(-1, "axiom");
            full(d).refused(-2, "axiom").due(5, "drop").refused(-2, "axiom").due(5, "retract", 3).due(6, "axiom");
        }
        // The six formulas of a full stack become six axioms.
        Run x = withSixFormulas(run());
        for (int n = 1; n <= 6; n++) {
            x.due(n, "axiom");
        }
        x.refused(-1, "axiom").put(HAS, 0).refused(-2, "axiom");
    }

    private static void noAxiomToRetract() {
        sentence = "6: There is none: -1. Else answers how many are left.";
        for (int d = 1; d <= 3; d++) {
            for (int i : outside(0, -1)) {
                withDomain(d).put(HAS, 0).refused(-1, "retract", i);
            }
            for (int n = 1; n <= 6; n++) {
                Run x = withSixAxioms(d);
                for (int left = 5; left >= n; left--) {
                    x.due(left, "retract", 0);
                }
                for (int i : new int[] {LEAST, -2, -1, n, n + 1, 6, 7, MOST}) {
                    if (i < 0 || i >= n) {
                        x.refused(-1, "retract", i);
                    }
                }
                x.twin().due(n - 1, "retract", 0);
                x.due(n - 1, "retract", n - 1).refused(-1, "retract", n - 1);
            }
            for (int i : outside(0, 5)) {
                full(d).refused(-1, "retract", i);
            }
        }
        run().putAxiom(HAS, 0).due(0, "retract", 0).refused(-1, "retract", 0).due(64, "models");
    }

    private static void laterOnesGetLess() {
        sentence = "6: later ones get numbers less by one.";
        for (int away = 0; away < 6; away++) {
            int[][] axioms = {
                {HAS, 0, SOME, 0}, {PAIR, 0, SOME, 0}, {HAS, 0, NOT, 0, SOME, 0}, {PAIR, 0, NOT, 0, SOME, 0},
                {PAIR, 1, PAIR, 3, IMPLIES, 0}, {PAIR, 1, SOME, 1}};
            Run x = run();
            Run without = run();
            for (int n = 0; n < 6; n++) {
                x.putAxiom(axioms[n]);
                if (n != away) {
                    without.putAxiom(axioms[n]);
                }
            }
            x.due(5, "retract", away);
            if (!x.seen().equals(without.seen())) {
                tell("axiom " + away + " of six");
            }
            x.refused(-1, "independent", 5).refused(-1, "retract", 5).put(HAS, 0).due(6, "axiom");
        }
    }

    private static void howManyModels() {
        sentence = "7: How many models there are.";
        for (int d = 1; d <= 3; d++) {
            // None, one alone (the first, the last), all but one, all.
            withDomain(d).putAxiom(SAME, 0, NOT, 0).unchanged(0, "models").due(0, "retract", 0).due(last(d) + 1, "models");
            onlyFirst(withDomain(d)).due(1, "axiom").unchanged(1, "models");
            onlyLast(withDomain(d)).due(1, "axiom").unchanged(1, "models");
            allButFirst(withDomain(d)).due(1, "axiom").unchanged(last(d), "models");
            allButLast(withDomain(d)).due(1, "axiom").unchanged(last(d), "models");
            withDomain(d).putAxiom(SAME, 0).unchanged(last(d) + 1, "models");
        }
    }

    private static Run onlyFirst(Run x) {
        return x.put(HAS, 0, PAIR, 5, OR, 0, NOT, 0);
    }

    private static Run onlyLast(Run x) {
        return x.put(HAS, 0, PAIR, 5, AND, 0);
    }

    private static Run allButFirst(Run x) {
        return x.put(HAS, 0, PAIR, 5, OR, 0, SOME, 0, SOME, 1, SOME, 2);
    }

    private static Run allButLast(Run x) {
        return x.put(HAS, 0, PAIR, 5, AND, 0, NOT, 0, SOME, 0, SOME, 1, SOME, 2);
    }

    private static void nextOfAnyInt() {
        sentence = "8: The least number of a model that is greater than 'after' (any int); -2 if there is none.";
        for (int d = 1; d <= 3; d++) {
            int last = last(d);
            int[] below = {LEAST, LEAST + 1, -65536, -last - 1, -3, -2, -1};
            int[] beyond = {last, last + 1, last + 2, 65536, 1 << 30, MOST - 1, MOST};
            Run all = withDomain(d);
            Run none = withDomain(d).putAxiom(SAME, 0, NOT, 0);
            Run first = onlyFirst(withDomain(d)).due(1, "axiom");
            Run end = onlyLast(withDomain(d)).due(1, "axiom");
            for (int after : below) {
                all.unchanged(0, "next", after);
                none.unchanged(-2, "next", after);
                first.due(0, "next", after);
                end.due(last, "next", after);
            }
            for (int after : beyond) {
                all.unchanged(-2, "next", after);
                none.due(-2, "next", after);
                first.due(-2, "next", after);
                end.due(-2, "next", after);
            }
            all.due(1, "next", 0).due(2, "next", 1).due(last - 1, "next", last - 2).due(last, "next", last - 1);
            none.due(-2, "next", 0).due(-2, "next", last - 1);
            first.due(-2, "next", 0).due(-2, "next", 1);
            end.due(last, "next", 0).due(last, "next", last - 2).due(last, "next", last - 1);
        }
    }

    private static void nextBetweenModels() {
        sentence = "8: The least number of a model that is greater than 'after'";
        // All have P and a loop: the models are 39, 47, 55 and 63.
        Run x = run().putAxiom(HAS, 0, PAIR, 0, AND, 0);
        int[] found = {39, 47, 55, 63};
        for (int after = -2; after < 66; after++) {
            int want = -2;
            for (int i = 3; i >= 0; i--) {
                want = found[i] > after ? found[i] : want;
            }
            x.due(want, "next", after);
        }
        // What is greater with fewer elements is none with more, and the other way round.
        x.due(4096, "domain", 3).due(7 + r(3, 0, 0) + r(3, 1, 1) + r(3, 2, 2), "next", 63);
        x.due(4, "domain", 1).due(3, "next", 2).due(-2, "next", 3);
    }

    private static void isModelOfNumbers() {
        sentence = "9: 1 if the interpretation is a model, else 0.";
        for (int d = 1; d <= 3; d++) {
            Run x = onlyLast(withDomain(d)).due(1, "axiom");
            x.unchanged(0, "isModel", 0).unchanged(0, "isModel", last(d) - 1).unchanged(1, "isModel", last(d));
            x.refused(-1, "isModel", -1).refused(-1, "isModel", last(d) + 1);
            for (int b = 0; b < d + d * d; b++) {
                x.due(0, "isModel", last(d) - (1 << b));
            }
            Run y = onlyFirst(withDomain(d)).due(1, "axiom");
            y.unchanged(1, "isModel", 0).unchanged(0, "isModel", 1).unchanged(0, "isModel", last(d));
            for (int b = 0; b < d + d * d; b++) {
                y.due(0, "isModel", 1 << b);
            }
        }
    }

    private static void shapesOfFewModels() {
        sentence = "10: How many models there are if of all with the same shape only one is counted.";
        int[] all = {0, 4, 36, 752};
        for (int d = 1; d <= 3; d++) {
            withDomain(d).unchanged(all[d], "shapes").putAxiom(SAME, 0, NOT, 0).unchanged(0, "shapes");
            onlyFirst(withDomain(d)).due(1, "axiom").unchanged(1, "shapes");
            onlyLast(withDomain(d)).due(1, "axiom").unchanged(1, "shapes");
            allButFirst(withDomain(d)).due(1, "axiom").due(all[d] - 1, "shapes");
            allButLast(withDomain(d)).due(1, "axiom").due(all[d] - 1, "shapes");
        }
        // More models, all of one shape; and then of two.
        for (int d = 2; d <= 3; d++) {
            Run x = withDomain(d);
            putShapeAxioms(x);
            x.due(d * (d - 1), "models").unchanged(1, "shapes").due(4, "retract", 3);
            x.due(d * (d - 1) + d, "models").unchanged(2, "shapes");
        }
    }

    private static void sameShapeOfEnds() {
        sentence = "11: 1 if the two interpretations have the same shape, else 0.";
        for (int d = 1; d <= 3; d++) {
            int last = last(d);
            Run x = busy(d);
            x.unchanged(1, "sameShape", 0, 0).unchanged(1, "sameShape", last, last).unchanged(0, "sameShape", 0, last);
            x.unchanged(0, "sameShape", last, 0).due(0, "sameShape", 0, 1).due(0, "sameShape", last, last - 1);
            for (int m : new int[] {LEAST, -1, last + 1, MOST}) {
                x.refused(-1, "sameShape", m, last).refused(-1, "sameShape", last, m).refused(-1, "sameShape", m, m);
            }
        }
        run().due(1, "sameShape", 1, 2).due(4, "domain", 1).due(0, "sameShape", 1, 2);
    }

    private static void symmetriesOneToSix() {
        sentence = "12: How many one-to-one maps of the elements onto themselves take the interpretation to itself.";
        int round = r(3, 0, 1) | r(3, 1, 2) | r(3, 2, 0);
        withDomain(1).due(1, "symmetries", 0).due(1, "symmetries", 1).due(1, "symmetries", 2).due(1, "symmetries", 3);
        withDomain(2).due(2, "symmetries", 0).due(2, "symmetries", 63).due(1, "symmetries", 62).due(1, "symmetries", 1);
        withDomain(3).due(6, "symmetries", 0).due(6, "symmetries", 7).due(6, "symmetries", 4095)
            .due(2, "symmetries", 1).due(2, "symmetries", 4094).due(3, "symmetries", round).due(1, "symmetries", round | 1)
            .due(1, "symmetries", r(3, 0, 1)).due(2, "symmetries", r(3, 0, 1) | r(3, 1, 0));
        for (int d = 1; d <= 3; d++) {
            busy(d).refused(-1, "symmetries", -1).refused(-1, "symmetries", last(d) + 1)
                .unchanged(d == 1 ? 1 : d * (d - 1), "symmetries", last(d));
        }
    }

    private static void digitsThatAreForced() {
        sentence = "13: digit b (0 to d + d * d - 1; otherwise -1)";
        for (int d = 1; d <= 3; d++) {
            int digits = d + d * d;
            Run x = busy(d);
            for (int b : outside(0, digits - 1)) {
                x.refused(-1, "forced", b);
            }
            Run all = withDomain(d).refused(-1, "forced", -1).refused(-1, "forced", digits);
            Run first = onlyFirst(withDomain(d)).due(1, "axiom");
            Run last = onlyLast(withDomain(d)).due(1, "axiom");
            for (int b = 0; b < digits; b++) {
                all.unchanged(2, "forced", b);
                first.unchanged(0, "forced", b);
                last.unchanged(1, "forced", b);
            }
        }
        // What is a digit with three elements is none with fewer.
        withDomain(3).due(2, "forced", 11).due(64, "domain", 2).due(-1, "forced", 11).due(-1, "forced", 6)
            .due(2, "forced", 5).due(4, "domain", 1).due(-1, "forced", 5).due(-1, "forced", 2).due(2, "forced", 1);
    }

    private static void forcedWithFewModels() {
        sentence = "13: 0 or 1 if it is the same in all; 2 if not; 3 if there is no model.";
        for (int d = 1; d <= 3; d++) {
            int digits = d + d * d;
            Run none = withDomain(d).putAxiom(SAME, 0, NOT, 0);
            none.refused(-1, "forced", -1).refused(-1, "forced", digits).refused(-1, "forced", MOST);
            // The first and the last alone: one model of two differs.
            Run ends = withDomain(d).putAxiom(HAS, 0, PAIR, 5, IFF, 0);
            ends.due(2, "models");
            for (int b = 0; b < digits; b++) {
                none.unchanged(3, "forced", b);
                ends.unchanged(2, "forced", b);
            }
            none.due(0, "retract", 0).due(2, "forced", 0);
            // Some digits the same in all, others not.
            Run some = withDomain(d).putAxiom(HAS, 0).putAxiom(PAIR, 0, NOT, 0);
            for (int e = 0; e < d; e++) {
                some.due(1, "forced", e);
                for (int f = 0; f < d; f++) {
                    some.due(e == f ? 0 : 2, "forced", d + d * e + f);
                }
            }
        }
        // Without a model with one or two elements, with models with three.
        run().putAxiom(SAME, 0, MANY, 3).due(3, "forced", 5).due(-1, "forced", 6).due(4096, "domain", 3)
            .due(2, "forced", 6).due(2, "forced", 11).due(-1, "forced", 12).due(4, "domain", 1).due(3, "forced", 1)
            .due(-1, "forced", 2);
    }

    private static void listsThatAreNone() {
        sentence = "14: The list's number is not 0 to 26, or has an element that is not below d: -1";
        for (int d = 1; d <= 3; d++) {
            Run x = busy(d).put(SAME, 0);
            for (int list : outside(0, 26)) {
                x.refused(-1, "holds", 0, list);
                x.refused(-1, "holds", last(d), list);
            }
            for (int list = 0; list < 27; list++) {
                if (isInside(list, d)) {
                    x.unchanged(1, "holds", 0, list);
                } else {
                    x.refused(-1, "holds", 0, list);
                }
            }
        }
        // One element too large, in each of the three places.
        withDomain(1).put(SAME, 0).due(1, "holds", 0, 0).due(-1, "holds", 0, 1).due(-1, "holds", 0, 3).due(-1, "holds", 0, 9);
        withDomain(2).put(SAME, 0).due(1, "holds", 0, 13).due(-1, "holds", 0, list(2, 1, 1))
            .due(-1, "holds", 0, list(1, 2, 1)).due(-1, "holds", 0, list(1, 1, 2));
        withDomain(3).put(SAME, 0).due(1, "holds", 0, 26).due(-1, "holds", 0, 27).due(64, "domain", 2)
            .due(-1, "holds", 0, 26).due(-1, "holds", 0, 14).due(1, "holds", 0, 13).due(4, "domain", 1)
            .due(-1, "holds", 0, 13).due(1, "holds", 0, 0);
    }

    private static void afterTheTwoTests() {
        sentence = "14: -1 (after the two tests named above).";
        for (int d = 1; d <= 3; d++) {
            int beyond = last(d) + 1;
            withSixAxioms(d).refused(-1, "holds", 0, 27).refused(-1, "holds", beyond, 0).refused(-1, "holds", beyond, 27)
                .refused(-1, "holds", 0, 0).put(SAME, 0).due(1, "holds", 0, 0).refused(-1, "holds", 0, 27)
                .refused(-1, "holds", beyond, 0).refused(-1, "holds", beyond, 27).refused(-1, "holds", -1, -1)
                .due(1, "holds", last(d), 0);
        }
    }

    private static void listsNoneToAll() {
        sentence = "15: For how many of the d * d * d lists the top holds in the interpretation.";
        for (int d = 1; d <= 3; d++) {
            int all = d * d * d;
            Run x = withDomain(d).refused(-1, "lists", 0).put(SAME, 0).unchanged(all, "lists", 0).unchanged(all, "lists", last(d));
            x.refused(-1, "lists", -1).refused(-1, "lists", last(d) + 1).put(NOT, 0).unchanged(0, "lists", 0);
            // One list alone: (e, e, e) of the element that alone has P.
            Run one = withDomain(d).put(HAS, 0, HAS, 1, AND, 0, HAS, 2, AND, 0);
            Run butOne = withDomain(d).put(HAS, 0, HAS, 1, OR, 0, HAS, 2, OR, 0);
            for (int e = 0; e < d; e++) {
                one.due(1, "lists", p(e)).due(1, "holds", p(e), list(e, e, e));
                butOne.due(all - 1, "lists", (1 << d) - 1 - p(e)).due(0, "holds", (1 << d) - 1 - p(e), list(e, e, e));
            }
            one.due(0, "lists", 0).due(all, "lists", last(d));
            butOne.due(0, "lists", 0).due(all, "lists", last(d));
        }
    }

    private static void followsInAllModels() {
        sentence = "16: 1 if the top is valid in all models, else 0.";
        for (int d = 1; d <= 3; d++) {
            withDomain(d).refused(-1, "follows").put(SAME, 0).unchanged(1, "follows");
            withSixAxioms(d).refused(-1, "follows");
            // In all models but one, the first or the last.
            allButFirst(withDomain(d)).unchanged(0, "follows");
            allButLast(withDomain(d)).unchanged(0, "follows");
            // The one model where it isn't valid is none any more.
            allButFirst(withDomain(d).putAxiom(HAS, 0, SOME, 0)).due(1, "follows");
            allButLast(withDomain(d).putAxiom(HAS, 0, NOT, 0)).due(1, "follows");
            // In one model alone.
            onlyFirst(withDomain(d)).due(0, "follows").due(1, "axiom").due(-1, "follows").put(PAIR, 1).due(0, "follows");
            // Without a model all follows, even what never holds.
            withDomain(d).put(SAME, 0, NOT, 0).due(0, "follows").putAxiom(SAME, 0, NOT, 0).unchanged(1, "follows");
        }
    }

    private static void agreeingNoneToAll() {
        sentence = "17: How many models there are in which the top is valid.";
        for (int d = 1; d <= 3; d++) {
            int all = last(d) + 1;
            withDomain(d).refused(-1, "agreeing").put(SAME, 0).unchanged(all, "agreeing").put(NOT, 0).unchanged(0, "agreeing");
            withSixAxioms(d).refused(-1, "agreeing");
            onlyFirst(withDomain(d)).unchanged(1, "agreeing");
            onlyLast(withDomain(d)).unchanged(1, "agreeing");
            allButFirst(withDomain(d)).unchanged(all - 1, "agreeing");
            allButLast(withDomain(d)).unchanged(all - 1, "agreeing");
            // Models alone count, and without a model there is none.
            onlyFirst(withDomain(d).putAxiom(HAS, 0)).due(0, "agreeing");
            onlyLast(withDomain(d).putAxiom(HAS, 0)).due(1, "agreeing");
            withDomain(d).putAxiom(SAME, 0, NOT, 0).put(SAME, 0).unchanged(0, "agreeing");
        }
    }

    private static void alikeOfFewerThanTwo() {
        sentence = "18: -1 if there are fewer than two.";
        for (int d = 1; d <= 3; d++) {
            withDomain(d).refused(-1, "alike").put(HAS, 0).refused(-1, "alike").put(HAS, 0).unchanged(1, "alike")
                .put(NOT, 0).unchanged(0, "alike").put(IFF, 0).refused(-1, "alike").due(0, "drop").refused(-1, "alike");
            withSixAxioms(d).refused(-1, "alike").put(HAS, 0).refused(-1, "alike");
            // Also without a model.
            withDomain(d).putAxiom(SAME, 0, NOT, 0).refused(-1, "alike").put(HAS, 0).refused(-1, "alike")
                .put(HAS, 0, NOT, 0).unchanged(1, "alike").due(1, "drop").refused(-1, "alike");
            full(d).due(5, "drop").due(4, "drop").due(3, "drop").due(2, "drop").unchanged(d == 1 ? 1 : 0, "alike")
                .due(1, "drop").refused(-1, "alike");
        }
    }

    private static void alikeForTheSameLists() {
        sentence = "18: 1 if in every model the two topmost formulas hold for the same lists, else 0";
        // They differ for one list alone, in the models of one shape alone.
        for (int d = 2; d <= 3; d++) {
            for (int list = 0; list < 27; list++) {
                if (isInside(list, d)) {
                    Run x = withDomain(d);
                    putShapeAxioms(x);
                    putIsList(x, list);
                    x.put(SAME, 0, NOT, 0).due(0, "alike");
                    putIsList(x, list);
                    x.due(0, "alike").due(2, "drop").due(1, "drop");
                    putIsList(x, list);
                    x.due(1, "alike").put(NOT, 0).due(0, "alike").put(SAME, 0).due(0, "alike");
                }
            }
        }
        for (int d = 1; d <= 3; d++) {
            // In the first or in the last model alone.
            allButFirst(withDomain(d).put(SAME, 0)).due(0, "alike");
            allButLast(withDomain(d).put(SAME, 0)).due(0, "alike");
            allButFirst(withDomain(d).putAxiom(HAS, 0, SOME, 0).put(SAME, 0)).due(1, "alike");
            allButLast(withDomain(d).putAxiom(HAS, 0, NOT, 0).put(SAME, 0)).due(1, "alike");
            // The formulas below the two topmost are nothing to it.
            withDomain(d).put(PAIR, 1, HAS, 0, HAS, 0).due(1, "alike");
            withDomain(d).put(HAS, 0, HAS, 0, PAIR, 1).due(0, "alike");
            // Valid in the same models, but for other lists: alike with one element alone.
            withDomain(d).put(HAS, 0, HAS, 1).due(d == 1 ? 1 : 0, "alike");
        }
    }

    private static void noAxiomOfThatNumber() {
        sentence = "19: There is no axiom i: -1.";
        for (int d = 1; d <= 3; d++) {
            for (int i : outside(0, -1)) {
                withDomain(d).put(HAS, 0).refused(-1, "independent", i);
            }
            for (int n = 1; n <= 6; n++) {
                Run x = withDomain(d);
                for (int i = 0; i < n; i++) {
                    x.putAxiom(i < n - 1 ? SAME : HAS, 0);
                }
                for (int i : outside(0, n - 1)) {
                    x.refused(-1, "independent", i);
                }
                x.unchanged(n == 1 ? 1 : 0, "independent", 0).unchanged(1, "independent", n - 1);
                x.due(n - 1, "retract", 0).refused(-1, "independent", n - 1);
            }
        }
    }

    private static void independentByOne() {
        sentence = "19: 1 if there is an interpretation (with the domain as it is now)"
            + " in which all axioms but number i are valid and this one is not; else 0.";
        for (int d = 1; d <= 3; d++) {
            // One interpretation alone, the first or the last.
            allButFirst(withDomain(d)).due(1, "axiom").unchanged(1, "independent", 0)
                .putAxiom(HAS, 0, SOME, 0).unchanged(0, "independent", 0);
            allButLast(withDomain(d)).due(1, "axiom").unchanged(1, "independent", 0)
                .putAxiom(HAS, 0, NOT, 0).unchanged(0, "independent", 0);
            // One that is valid in all, and one that is valid in none.
            withDomain(d).putAxiom(SAME, 0).due(0, "independent", 0);
            withDomain(d).putAxiom(SAME, 0, NOT, 0).due(1, "independent", 0).putAxiom(HAS, 0)
                .due(1, "independent", 0).due(0, "independent", 1);
            // The same twice, first and last of six.
            Run x = withDomain(d).putAxiom(HAS, 0).putAxiom(SAME, 0).putAxiom(SAME, 4).putAxiom(PAIR, 0)
                .putAxiom(SAME, 8).putAxiom(HAS, 2);
            int[] want = {0, 0, 0, 1, 0, 0};
            for (int i = 0; i < 6; i++) {
                x.due(want[i], "independent", i);
            }
            x.due(5, "retract", 0).due(1, "independent", 4).due(1, "independent", 2).due(0, "independent", 0);
            // With the domain as it is now.
            withDomain(d).putAxiom(SAME, 1).due(d == 1 ? 0 : 1, "independent", 0)
                .due(4, "domain", 1).due(0, "independent", 0).due(4096, "domain", 3).due(1, "independent", 0);
        }
        Run six = full(3).due(9, "models");
        for (int i = 0; i < 6; i++) {
            six.unchanged(1, "independent", i);
        }
    }

    private static void smallestOfAll() {
        sentence = "20: The least d from 1 to 3 such that the axioms have a model with d elements"
            + " (whatever the domain is now); 0 if there is none.";
        for (int d = 1; d <= 3; d++) {
            withDomain(d).unchanged(1, "smallest");
            withDomain(d).putAxiom(SAME, 0, MANY, 0).unchanged(2, "smallest");
            withDomain(d).putAxiom(SAME, 0, MANY, 3).unchanged(3, "smallest");
            withDomain(d).putAxiom(SAME, 0, NOT, 0).unchanged(0, "smallest");
            withDomain(d).putAxiom(SAME, 1).unchanged(1, "smallest").putAxiom(SAME, 0, MANY, 0).unchanged(0, "smallest");
            // One model alone with each number of elements, the first or the last.
            onlyFirst(withDomain(d)).due(1, "axiom").due(1, "smallest").putAxiom(SAME, 0, MANY, 0).due(2, "smallest")
                .putAxiom(SAME, 0, MANY, 3).due(3, "smallest").putAxiom(HAS, 0).due(0, "smallest");
            onlyLast(withDomain(d)).due(1, "axiom").due(1, "smallest").putAxiom(SAME, 0, MANY, 0).due(2, "smallest")
                .putAxiom(SAME, 0, MANY, 3).due(3, "smallest").putAxiom(HAS, 0, NOT, 0).due(0, "smallest");
            // With two elements, but not with three.
            withDomain(d).putAxiom(SAME, 0, MANY, 0).putAxiom(SAME, 0, MANY, 3, NOT, 0).due(2, "smallest");
            full(d).unchanged(2, "smallest");
        }
    }

    public static void main(String[] args) {
        calls512();
        each512th();
        callsBeyond512();
        digitsOfNumbers();
        numbersOfInterpretations();
        variablesOfPairs();
        sameElementReached();
        bothOrNeither();
        everyElement();
        atLeastOneElement();
        atLeastKElements();
        validForEveryList();
        sixAxiomsAtMost();
        allAxiomsAreValid();
        mapsOntoThemselves();
        refusedChangesNothing();
        everyRefusedCall();
        orderOfTests();
        numbersOfLists();
        askingChangesNothing();
        topOfEmptyStack();
        noInterpretationsNumber();
        newObject();
        domainOfOneToThree();
        formulasAndAxiomsStay();
        tokenKinds();
        tokenArguments();
        argumentNotLookedAt();
        fewerThanItTakes();
        sixOnTheStack();
        moreThan24TokensOfOne();
        moreThan24TokensOfTwo();
        as24TokensWerePut();
        tokenAnswers();
        dropOfEmptyStack();
        axiomOfEmptyStack();
        sixAxioms();
        noAxiomToRetract();
        laterOnesGetLess();
        howManyModels();
        nextOfAnyInt();
        nextBetweenModels();
        isModelOfNumbers();
        shapesOfFewModels();
        sameShapeOfEnds();
        symmetriesOneToSix();
        digitsThatAreForced();
        forcedWithFewModels();
        listsThatAreNone();
        afterTheTwoTests();
        listsNoneToAll();
        followsInAllModels();
        agreeingNoneToAll();
        alikeOfFewerThanTwo();
        alikeForTheSameLists();
        noAxiomOfThatNumber();
        independentByOne();
        smallestOfAll();
        System.out.println(wrong == 0 ? "all answers are as due" : wrong + " answers are not as due");
        if (wrong != 0) {
            System.exit(1);
        }
    }
}
