import java.util.ArrayList;
import java.util.List;

/**
 * Long runs of made-up calls, each answer compared with that of a second
 * program, which follows the document's words on trees of formulas and tables
 * of truth values. The runs are the same each time.
 */
public final class ReferenceTest {
    private static final int RUNS = 60;
    private static final int CALLS = 512;

    private static int wrong = 0;

    /** A formula as a tree. */
    private static final class Formula {
        final int kind;
        final int a;
        final Formula f;
        final Formula g;
        final int tokens;

        Formula(int kind, int a, Formula f, Formula g) {
            this.kind = kind;
            this.a = a;
            this.f = f;
            this.g = g;
            this.tokens = 1 + (f == null ? 0 : f.tokens) + (g == null ? 0 : g.tokens);
        }
    }

    /** An interpretation as two tables. */
    private static final class Interpretation {
        final int d;
        final boolean[] p;
        final boolean[][] r;

        Interpretation(int d, int number) {
            this.d = d;
            p = new boolean[d];
            r = new boolean[d][d];
            int rest = number;
            for (int e = 0; e < d; e++) {
                p[e] = rest % 2 == 1;
                rest /= 2;
            }
            for (int e = 0; e < d; e++) {
                for (int f = 0; f < d; f++) {
                    r[e][f] = rest % 2 == 1;
                    rest /= 2;
                }
            }
        }

        boolean reaches(int e, int f) {
            boolean[] seen = new boolean[d];
            List<Integer> open = new ArrayList<>(List.of(e));
            while (!open.isEmpty()) {
                int at = open.remove(0);
                if (at == f) {
                    return true;
                }
                for (int to = 0; to < d; to++) {
                    if (r[at][to] && !seen[to]) {
                        seen[to] = true;
                        open.add(to);
                    }
                }
            }
            return false;
        }

        boolean isTakenTo(Interpretation other, int[] map) {
            for (int e = 0; e < d; e++) {
                if (p[e] != other.p[map[e]]) {
                    return false;
                }
                for (int f = 0; f < d; f++) {
                    if (r[e][f] != other.r[map[e]][map[f]]) {
                        return false;
                    }
                }
            }
            return true;
        }

        int mapsTo(Interpretation other) {
            int[][][] maps = {
                {}, {{0}}, {{0, 1}, {1, 0}},
                {{0, 1, 2}, {0, 2, 1}, {1, 0, 2}, {1, 2, 0}, {2, 0, 1}, {2, 1, 0}}};
            int count = 0;
            for (int[] map : maps[d]) {
                if (isTakenTo(other, map)) {
                    count++;
                }
            }
            return count;
        }

        /** For every list of the domain, written with d in place of 3, whether it holds. */
        boolean[] table(Formula formula) {
            boolean[] f = formula.f == null ? null : table(formula.f);
            boolean[] g = formula.g == null ? null : table(formula.g);
            boolean[] result = new boolean[d * d * d];
            for (int list = 0; list < result.length; list++) {
                result[list] = holds(formula, f, g, list);
            }
            return result;
        }

        private boolean holds(Formula formula, boolean[] f, boolean[] g, int list) {
            int[] at = {list % d, list / d % d, list / d / d};
            int a = formula.a;
            switch (formula.kind) {
                case 0: return p[at[a]];
                case 1: return r[at[a / 3]][at[a % 3]];
                case 2: return at[a / 3] == at[a % 3];
                case 3: return reaches(at[a / 3], at[a % 3]);
                case 4: return !f[list];
                case 5: return f[list] && g[list];
                case 6: return f[list] || g[list];
                case 7: return !f[list] || g[list];
                case 8: return f[list] == g[list];
                default: break;
            }
            int count = 0;
            for (int e = 0; e < d; e++) {
                at[a % 3] = e;
                if (f[at[0] + d * at[1] + d * d * at[2]]) {
                    count++;
                }
            }
            return formula.kind == 9 ? count == d : formula.kind == 10 ? count > 0 : count >= 2 + a / 3;
        }

        boolean isValid(Formula formula) {
            for (boolean holds : table(formula)) {
                if (!holds) {
                    return false;
                }
            }
            return true;
        }

        boolean areValid(List<Formula> formulas) {
            for (Formula formula : formulas) {
                if (!isValid(formula)) {
                    return false;
                }
            }
            return true;
        }
    }

    private int d = 2;
    private final List<Formula> stack = new ArrayList<>();
    private final List<Formula> axioms = new ArrayList<>();
    // The models with the axioms and the domain as they are; null if not known.
    private List<Integer> known = null;

    private Formula top(int below) {
        return stack.get(stack.size() - 1 - below);
    }

    private Formula pop() {
        return stack.remove(stack.size() - 1);
    }

    private static int size(int d) {
        return d == 1 ? 4 : d == 2 ? 64 : 4096;
    }

    private boolean isNumber(int m) {
        return m >= 0 && m < size(d);
    }

    private List<Integer> found() {
        if (known == null) {
            known = modelsWith(d);
        }
        return known;
    }

    private List<Integer> modelsWith(int elements) {
        List<Integer> result = new ArrayList<>();
        for (int m = 0; m < size(elements); m++) {
            if (new Interpretation(elements, m).areValid(axioms)) {
                result.add(m);
            }
        }
        return result;
    }

    private int domain(int elements) {
        if (elements < 1 || elements > 3) {
            return -1;
        }
        d = elements;
        known = null;
        return size(d);
    }

    private int token(int kind, int a) {
        int[] bounds = {3, 9, 9, 9, 0, 0, 0, 0, 0, 3, 3, 6};
        int[] takes = {0, 0, 0, 0, 1, 2, 2, 2, 2, 1, 1, 1};
        if (kind < 0 || kind > 11 || bounds[kind] > 0 && (a < 0 || a >= bounds[kind])) {
            return -1;
        }
        if (stack.size() < takes[kind]) {
            return -2;
        }
        if (takes[kind] == 0 && stack.size() == 6) {
            return -3;
        }
        Formula g = takes[kind] == 2 ? top(0) : null;
        Formula f = takes[kind] == 0 ? null : top(takes[kind] - 1);
        Formula made = new Formula(kind, a, f, g);
        if (made.tokens > 24) {
            return -4;
        }
        for (int i = 0; i < takes[kind]; i++) {
            pop();
        }
        stack.add(made);
        return stack.size();
    }

    private int drop() {
        if (stack.isEmpty()) {
            return -1;
        }
        pop();
        return stack.size();
    }

    private int axiom() {
        if (stack.isEmpty()) {
            return -1;
        }
        if (axioms.size() == 6) {
            return -2;
        }
        axioms.add(pop());
        known = null;
        return axioms.size();
    }

    private int retract(int i) {
        if (i < 0 || i >= axioms.size()) {
            return -1;
        }
        axioms.remove(i);
        known = null;
        return axioms.size();
    }

    private int next(int after) {
        for (int m : found()) {
            if (m > after) {
                return m;
            }
        }
        return -2;
    }

    private int shapes() {
        List<Interpretation> different = new ArrayList<>();
        for (int m : found()) {
            Interpretation here = new Interpretation(d, m);
            boolean counted = false;
            for (Interpretation other : different) {
                counted = counted || here.mapsTo(other) > 0;
            }
            if (!counted) {
                different.add(here);
            }
        }
        return different.size();
    }

    private int forced(int b) {
        if (b < 0 || b >= d + d * d) {
            return -1;
        }
        int ones = 0;
        for (int m : found()) {
            ones += m >> b & 1;
        }
        int all = found().size();
        return all == 0 ? 3 : ones == 0 ? 0 : ones == all ? 1 : 2;
    }

    private int holds(int m, int list) {
        if (stack.isEmpty() || !isNumber(m) || list < 0 || list > 26) {
            return -1;
        }
        int x = list % 3;
        int y = list / 3 % 3;
        int z = list / 9;
        if (x >= d || y >= d || z >= d) {
            return -1;
        }
        return new Interpretation(d, m).table(top(0))[x + d * y + d * d * z] ? 1 : 0;
    }

    private int lists(int m) {
        if (stack.isEmpty() || !isNumber(m)) {
            return -1;
        }
        int count = 0;
        for (boolean holds : new Interpretation(d, m).table(top(0))) {
            count += holds ? 1 : 0;
        }
        return count;
    }

    private int agreeing() {
        if (stack.isEmpty()) {
            return -1;
        }
        int count = 0;
        for (int m : found()) {
            count += new Interpretation(d, m).isValid(top(0)) ? 1 : 0;
        }
        return count;
    }

    private int follows() {
        return stack.isEmpty() ? -1 : agreeing() == found().size() ? 1 : 0;
    }

    private int alike() {
        if (stack.size() < 2) {
            return -1;
        }
        for (int m : found()) {
            Interpretation here = new Interpretation(d, m);
            if (!java.util.Arrays.equals(here.table(top(0)), here.table(top(1)))) {
                return 0;
            }
        }
        return 1;
    }

    private int independent(int i) {
        if (i < 0 || i >= axioms.size()) {
            return -1;
        }
        List<Formula> others = new ArrayList<>(axioms);
        Formula one = others.remove(i);
        for (int m = 0; m < size(d); m++) {
            Interpretation here = new Interpretation(d, m);
            if (here.areValid(others) && !here.isValid(one)) {
                return 1;
            }
        }
        return 0;
    }

    private int smallest() {
        for (int elements = 1; elements <= 3; elements++) {
            if (!modelsWith(elements).isEmpty()) {
                return elements;
            }
        }
        return 0;
    }

    private int maps(int m, int other) {
        if (!isNumber(m) || !isNumber(other)) {
            return -1;
        }
        return new Interpretation(d, m).mapsTo(new Interpretation(d, other));
    }

    // Numbers that look like chance and are the same in every run.
    private static long seed = 1;

    private static int pick(int bound) {
        seed = seed * 6364136223846793005L + 1442695040888963407L;
        return (int) ((seed >>> 33) % bound);
    }

    private int pickNumber() {
        int[] odd = {-1, size(d), size(d) - 1, Integer.MAX_VALUE, Integer.MIN_VALUE};
        return pick(12) == 0 ? odd[pick(odd.length)] : pick(size(d));
    }

    private static void due(int run, int call, String what, int got, int want) {
        if (got != want) {
            wrong++;
            System.out.println("run " + run + ", call " + call + ": " + what + " answered " + got + ", due is " + want);
        }
    }

    private void build(TinyModels x, int run, int call) {
        int choice = pick(20);
        if (choice < 15) {
            int kind = stack.size() < 2 ? pick(4) : pick(12);
            if (pick(25) == 0) {
                kind = pick(16) - 2;
            }
            int a = pick(25) == 0 ? pick(14) - 2 : pick(kind == 11 ? 6 : kind >= 1 && kind <= 3 ? 9 : 3);
            due(run, call, "token(" + kind + ", " + a + ")", x.token(kind, a), token(kind, a));
        } else if (choice == 15) {
            due(run, call, "drop()", x.drop(), drop());
        } else if (choice == 16) {
            due(run, call, "axiom()", x.axiom(), axiom());
        } else if (choice == 17) {
            int i = pick(8) - 1;
            due(run, call, "retract(" + i + ")", x.retract(i), retract(i));
        } else if (choice == 18 && found().isEmpty()) {
            due(run, call, "retract(0)", x.retract(0), retract(0));
        } else {
            int elements = pick(6) == 0 ? pick(6) - 1 : 1 + pick(run % 6 == 0 ? 3 : 2);
            due(run, call, "domain(" + elements + ")", x.domain(elements), domain(elements));
        }
    }

    private void ask(TinyModels x, int run, int call) {
        int m = pickNumber();
        int other = pickNumber();
        int small = pick(15) - 1;
        int list = pick(30) - 1;
        switch (pick(14)) {
            case 0: due(run, call, "models()", x.models(), found().size()); break;
            case 1: due(run, call, "next(" + m + ")", x.next(m), next(m)); break;
            case 2: due(run, call, "isModel(" + m + ")", x.isModel(m), isNumber(m) ? found().contains(m) ? 1 : 0 : -1); break;
            case 3: due(run, call, "shapes()", x.shapes(), shapes()); break;
            case 4: due(run, call, "sameShape(" + m + ", " + other + ")", x.sameShape(m, other), Math.min(1, maps(m, other))); break;
            case 5: due(run, call, "symmetries(" + m + ")", x.symmetries(m), maps(m, m)); break;
            case 6: due(run, call, "forced(" + small + ")", x.forced(small), forced(small)); break;
            case 7: due(run, call, "holds(" + m + ", " + list + ")", x.holds(m, list), holds(m, list)); break;
            case 8: due(run, call, "lists(" + m + ")", x.lists(m), lists(m)); break;
            case 9: due(run, call, "follows()", x.follows(), follows()); break;
            case 10: due(run, call, "agreeing()", x.agreeing(), agreeing()); break;
            case 11: due(run, call, "alike()", x.alike(), alike()); break;
            case 12: due(run, call, "independent(" + small / 2 + ")", x.independent(small / 2), independent(small / 2)); break;
            default: due(run, call, "smallest()", x.smallest(), smallest()); break;
        }
    }

    private static void everyTwoNumbers() {
        for (int d = 1; d <= 3; d++) {
            // Every pair with one and two elements, a part of those with three.
            int step = d == 3 ? 37 : 1;
            for (int m = 0; m < size(d); m += step) {
                Interpretation here = new Interpretation(d, m);
                TinyModels x = new TinyModels();
                x.domain(d);
                due(0, m, "symmetries", x.symmetries(m), here.mapsTo(here));
                for (int other = 0; other < size(d); other++) {
                    // What an object answers after 512 calls is free.
                    if (other % 500 == 0) {
                        x = new TinyModels();
                        x.domain(d);
                    }
                    int maps = here.mapsTo(new Interpretation(d, other));
                    due(0, m, "sameShape with " + other, x.sameShape(m, other), Math.min(1, maps));
                }
            }
        }
    }

    public static void main(String[] args) {
        everyTwoNumbers();
        for (int run = 1; run <= RUNS; run++) {
            TinyModels x = new TinyModels();
            ReferenceTest due = new ReferenceTest();
            for (int call = 1; call <= CALLS; call++) {
                if (pick(2) == 0) {
                    due.build(x, run, call);
                } else {
                    due.ask(x, run, call);
                }
            }
        }
        System.out.println(wrong == 0 ? "all answers are as due" : wrong + " answers are not as due");
        if (wrong != 0) {
            System.exit(1);
        }
    }
}
