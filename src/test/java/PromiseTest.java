/** The promises 1 to 20 of the document, one method each, and the meaning of the tokens. */
public final class PromiseTest {
    private static final int HAS = 0;
    private static final int PAIR = 1;
    private static final int SAME = 2;
    private static final int REACH = 3;
    private static final int NOT = 4;
    private static final int AND = 5;
    private static final int OR = 6;
    private static final int IMPLIES = 7;
    private static final int IFF = 8;
    private static final int ALL = 9;
    private static final int SOME = 10;
    private static final int MANY = 11;

    private static final int LEAST = Integer.MIN_VALUE;
    private static final int MOST = Integer.MAX_VALUE;

    // PAIR, SAME and REACH of the variables v and w.
    private static final int V00 = 0;
    private static final int V01 = 1;
    private static final int V10 = 3;
    private static final int V11 = 4;
    private static final int V12 = 5;
    private static final int V21 = 7;

    private static int wrong = 0;
    private static String promise = "";

    private static void due(String call, int got, int want) {
        if (got != want) {
            wrong++;
            System.out.println(promise + ": " + call + " answered " + got + ", due is " + want);
        }
    }

    private static TinyModels withDomain(int d) {
        TinyModels x = new TinyModels();
        x.domain(d);
        return x;
    }

    /** Puts tokens, given as kind, a, kind, a, .. */
    private static void put(TinyModels x, int... tokens) {
        for (int i = 0; i < tokens.length; i += 2) {
            int answer = x.token(tokens[i], tokens[i + 1]);
            if (answer < 1) {
                due("setting up: token(" + tokens[i] + ", " + tokens[i + 1] + ")", answer, 1);
            }
        }
    }

    private static void putAxiom(TinyModels x, int... tokens) {
        put(x, tokens);
        int answer = x.axiom();
        if (answer < 1) {
            due("setting up: axiom()", answer, 1);
        }
    }

    private static void putMany(TinyModels x, int times, int kind, int a) {
        for (int i = 0; i < times; i++) {
            put(x, kind, a);
        }
    }

    private static int p(int e) {
        return 1 << e;
    }

    private static int r(int d, int e, int f) {
        return 1 << (d + d * e + f);
    }

    private static int list(int x, int y, int z) {
        return x + 3 * y + 9 * z;
    }

    private static void newObject() {
        promise = "1 A new object";
        TinyModels x = new TinyModels();
        due("models()", x.models(), 64);
        due("isModel(63)", x.isModel(63), 1);
        due("isModel(64)", x.isModel(64), -1);
        due("agreeing()", x.agreeing(), -1);
        due("drop()", x.drop(), -1);
        due("axiom()", x.axiom(), -1);
        due("retract(0)", x.retract(0), -1);
        due("token(HAS, 0)", x.token(HAS, 0), 1);
        due("axiom()", x.axiom(), 1);
        TinyModels other = new TinyModels();
        due("models() of another object", other.models(), 64);
        due("retract(0) of another object", other.retract(0), -1);
    }

    private static void domain() {
        promise = "2 domain";
        TinyModels x = new TinyModels();
        due("domain(1)", x.domain(1), 4);
        due("models()", x.models(), 4);
        due("domain(3)", x.domain(3), 4096);
        due("models()", x.models(), 4096);
        due("domain(2)", x.domain(2), 64);
        due("domain(2) again", x.domain(2), 64);
        due("domain(3)", x.domain(3), 4096);
        for (int d : new int[] {0, 4, -1, 5, LEAST, MOST}) {
            due("domain(" + d + ")", x.domain(d), -1);
            due("models() after the refused domain(" + d + ")", x.models(), 4096);
        }
        putAxiom(x, HAS, 0);
        put(x, PAIR, V00);
        due("models() with 3", x.models(), 512);
        due("agreeing() with 3", x.agreeing(), 64);
        due("domain(1)", x.domain(1), 4);
        due("models() with 1", x.models(), 2);
        due("agreeing() with 1", x.agreeing(), 1);
        due("domain(2)", x.domain(2), 64);
        due("models() with 2", x.models(), 16);
        due("agreeing() with 2", x.agreeing(), 4);
        due("drop()", x.drop(), 0);
        due("retract(0)", x.retract(0), 0);
    }

    private static void tokenArguments() {
        promise = "3 token, its arguments";
        int[] bounds = {3, 9, 9, 9, 0, 0, 0, 0, 0, 3, 3, 6};
        for (int kind = 0; kind < 12; kind++) {
            int takes = kind < 4 ? 0 : kind >= AND && kind <= IFF ? 2 : 1;
            for (int a : new int[] {LEAST, -1, 0, 1, 2, 3, 4, 5, 6, 7, 8, 9, 10, MOST}) {
                TinyModels x = new TinyModels();
                put(x, HAS, 0, HAS, 1, HAS, 2);
                boolean fits = bounds[kind] == 0 || a >= 0 && a < bounds[kind];
                due("token(" + kind + ", " + a + ")", x.token(kind, a), fits ? 4 - takes : -1);
                int left = fits ? 4 - takes : 3;
                due("drop() after token(" + kind + ", " + a + ")", x.drop(), left - 1);
            }
        }
        for (int kind : new int[] {LEAST, -1, 12, 13, MOST}) {
            TinyModels x = new TinyModels();
            put(x, HAS, 0, HAS, 0);
            due("token(" + kind + ", 0)", x.token(kind, 0), -1);
            due("drop()", x.drop(), 1);
        }
    }

    private static void tokenStack() {
        promise = "3 token, the stack";
        TinyModels x = new TinyModels();
        for (int kind = NOT; kind <= MANY; kind++) {
            due("token(" + kind + ", 0) on an empty stack", x.token(kind, 0), -2);
        }
        due("token(ALL, 3) on an empty stack", x.token(ALL, 3), -1);
        due("token(MANY, 6) on an empty stack", x.token(MANY, 6), -1);
        put(x, HAS, 1);
        for (int kind = AND; kind <= IFF; kind++) {
            due("token(" + kind + ", 0) on one formula", x.token(kind, 0), -2);
        }
        due("lists(1) after refused tokens", x.lists(1), 4);
        for (int kind : new int[] {NOT, ALL, SOME, MANY}) {
            due("token(" + kind + ", 0) on one formula", x.token(kind, 0), 1);
        }
        for (int n = 2; n <= 6; n++) {
            due("token(PAIR, 8)", x.token(PAIR, 8), n);
        }
        for (int kind = HAS; kind <= REACH; kind++) {
            due("token(" + kind + ", 0) on six formulas", x.token(kind, 0), -3);
            due("token(" + kind + ", 9) on six formulas", x.token(kind, 9), -1);
        }
        due("token(NOT, 0) on six formulas", x.token(NOT, 0), 6);
        due("token(ALL, 2) on six formulas", x.token(ALL, 2), 6);
        due("token(AND, 0) on six formulas", x.token(AND, 0), 5);
        due("token(REACH, 0)", x.token(REACH, 0), 6);
    }

    private static void tokenLength() {
        promise = "3 token, 24 tokens";
        TinyModels x = new TinyModels();
        put(x, HAS, 0);
        putMany(x, 23, NOT, 0);
        due("lists(1) of 24 tokens", x.lists(1), 4);
        due("holds(1, 0) of 24 tokens", x.holds(1, 0), 0);
        for (int kind : new int[] {NOT, ALL, SOME, MANY}) {
            due("the 25th token(" + kind + ", 0)", x.token(kind, 0), -4);
        }
        due("token(ALL, 3)", x.token(ALL, 3), -1);
        due("token(AND, 0)", x.token(AND, 0), -2);
        due("holds(1, 0) after the refused tokens", x.holds(1, 0), 0);
        due("holds(1, 1) after the refused tokens", x.holds(1, 1), 1);
        put(x, HAS, 1);
        due("token(AND, 0) for 26", x.token(AND, 0), -4);
        due("drop()", x.drop(), 1);
        due("drop()", x.drop(), 0);

        put(x, HAS, 0);
        putMany(x, 11, NOT, 0);
        put(x, HAS, 1);
        putMany(x, 10, NOT, 0);
        due("token(NOT, 0)", x.token(NOT, 0), 2);
        for (int kind = AND; kind <= IFF; kind++) {
            due("token(" + kind + ", 0) for 12 + 12 + 1", x.token(kind, 0), -4);
        }
        due("drop()", x.drop(), 1);
        put(x, HAS, 1);
        putMany(x, 10, NOT, 0);
        due("token(AND, 0) for 12 + 11 + 1", x.token(AND, 0), 1);
        due("token(NOT, 0) for 25", x.token(NOT, 0), -4);
        due("holds(2, (0, 1, 0))", x.holds(2, list(0, 1, 0)), 1);
        due("holds(2, (1, 1, 0))", x.holds(2, list(1, 1, 0)), 0);
        due("axiom() of 24 tokens", x.axiom(), 1);
        due("token(HAS, 0) after it", x.token(HAS, 0), 1);
        putMany(x, 22, NOT, 0);
        due("the 24th token", x.token(SOME, 0), 1);
        due("the 25th token", x.token(SOME, 0), -4);

        // Six formulas of 24 tokens each leave every other one as it is.
        TinyModels full = withDomain(3);
        for (int n = 0; n < 6; n++) {
            put(full, HAS, n % 3);
            putMany(full, 23, NOT, 0);
        }
        for (int n = 5; n >= 0; n--) {
            int v = n % 3;
            int atV = v == 0 ? list(1, 0, 0) : v == 1 ? list(0, 1, 0) : list(0, 0, 1);
            due("holds of formula " + n, full.holds(p(1), atV), 0);
            due("lists of formula " + n, full.lists(p(1)), 18);
            due("axiom()", full.axiom(), 6 - n);
        }
        due("models()", full.models(), 512);
        due("forced(2)", full.forced(2), 0);
    }

    private static void meaning(String what, int d, int m, int list, boolean want, int... tokens) {
        TinyModels x = withDomain(d);
        put(x, tokens);
        due(what + ", d = " + d + ": holds(" + m + ", " + list + ")", x.holds(m, list), want ? 1 : 0);
    }

    private static void tokenMeaning() {
        promise = "3 token, what the tokens mean";
        for (int v = 0; v < 3; v++) {
            for (int e = 0; e < 3; e++) {
                int[] at = {0, 0, 0};
                at[v] = e;
                for (int g = 0; g < 3; g++) {
                    meaning("HAS " + v, 3, p(g), list(at[0], at[1], at[2]), e == g, HAS, v);
                }
            }
        }
        for (int a = 0; a < 9; a++) {
            for (int n = 0; n < 27; n++) {
                int[] at = {n % 3, n / 3 % 3, n / 9};
                int e = at[a / 3];
                int f = at[a % 3];
                meaning("PAIR " + a, 3, r(3, e, f), n, true, PAIR, a);
                meaning("PAIR " + a, 3, 4095 - r(3, e, f), n, false, PAIR, a);
                meaning("SAME " + a, 3, 0, n, e == f, SAME, a);
                meaning("REACH " + a, 3, 0, n, e == f, REACH, a);
                meaning("REACH " + a, 3, r(3, e, f), n, true, REACH, a);
            }
        }
        for (int e = 0; e < 3; e++) {
            for (int step = 1; step <= 2; step++) {
                int via = (e + step) % 3;
                int f = (e + 2 * step) % 3;
                int path = r(3, e, via) | r(3, via, f);
                meaning("REACH in two steps", 3, path, list(e, f, 0), true, REACH, V01);
                meaning("REACH in two steps, V10", 3, path, list(f, e, 0), true, REACH, V10);
                meaning("REACH against the arrows", 3, path, list(f, e, 0), false, REACH, V01);
                meaning("PAIR in two steps", 3, path, list(e, f, 0), false, PAIR, V01);
            }
        }
        for (int f = 0; f < 2; f++) {
            for (int g = 0; g < 2; g++) {
                // Variable 0 has the element 0, variable 1 the element 1.
                int m = f * p(0) + g * p(1);
                int at = list(0, 1, 0);
                boolean bf = f == 1;
                boolean bg = g == 1;
                meaning("NOT", 2, m, at, !bf, HAS, 0, NOT, 0);
                meaning("AND", 2, m, at, bf && bg, HAS, 0, HAS, 1, AND, 0);
                meaning("OR", 2, m, at, bf || bg, HAS, 0, HAS, 1, OR, 0);
                meaning("IMPLIES", 2, m, at, !bf || bg, HAS, 0, HAS, 1, IMPLIES, 0);
                meaning("IFF", 2, m, at, bf == bg, HAS, 0, HAS, 1, IFF, 0);
            }
        }
    }

    private static void quantifierMeaning() {
        promise = "3 token, what the quantifiers mean";
        for (int d = 1; d <= 3; d++) {
            for (int m = 0; m < 1 << d; m++) {
                int owners = Integer.bitCount(m);
                for (int v = 0; v < 3; v++) {
                    meaning("ALL " + v, d, m, 0, owners == d, HAS, v, ALL, v);
                    meaning("SOME " + v, d, m, 0, owners >= 1, HAS, v, SOME, v);
                    meaning("MANY " + v, d, m, 0, owners >= 2, HAS, v, MANY, v);
                    meaning("MANY " + (v + 3), d, m, 0, owners >= 3, HAS, v, MANY, v + 3);
                    meaning("NOT, ALL " + v, d, m, 0, owners == 0, HAS, v, NOT, 0, ALL, v);
                    meaning("NOT, MANY " + v, d, m, 0, d - owners >= 2, HAS, v, NOT, 0, MANY, v);
                    meaning("MANY " + v + ", NOT", d, m, 0, owners < 2, HAS, v, MANY, v, NOT, 0);
                    int other = (v + 1) % 3;
                    boolean zeroHas = (m & 1) == 1;
                    meaning("ALL of another variable", d, m, 0, zeroHas, HAS, v, ALL, other);
                    meaning("SOME of another variable", d, m, 0, zeroHas, HAS, v, SOME, other);
                    meaning("MANY of another variable", d, m, 0, zeroHas && d >= 2, HAS, v, MANY, other);
                    meaning("MANY of another variable", d, m, 0, zeroHas && d >= 3, HAS, v, MANY, other + 3);
                }
            }
        }
        int toTwo = r(3, 0, 2) | r(3, 1, 2) | r(3, 2, 2);
        meaning("one for all", 3, toTwo, 0, true, PAIR, V01, ALL, 0, SOME, 1);
        int round = r(3, 0, 1) | r(3, 1, 2) | r(3, 2, 0);
        meaning("one for all", 3, round, 0, false, PAIR, V01, ALL, 0, SOME, 1);
        meaning("for each one", 3, round, 0, true, PAIR, V01, SOME, 1, ALL, 0);
        quantifiersOverPairs();
        meaning("the other order of F and G", 2, p(0), list(0, 1, 0), true, HAS, 1, HAS, 0, IMPLIES, 0);
    }

    /** A quantifier for v over PAIR of v and w, for all that w can have. */
    private static void quantifiersOverPairs() {
        for (int a = 0; a < 9; a++) {
            int v = a / 3;
            int w = a % 3;
            for (int n = 0; n < 27; n++) {
                int[] at = {n % 3, n / 3 % 3, n / 9};
                int one = r(3, (at[w] + 1) % 3, at[w]);
                int two = one | r(3, (at[w] + 2) % 3, at[w]);
                int three = two | r(3, at[w], at[w]);
                if (v != w) {
                    meaning("SOME " + v + " of PAIR " + a + ", 0", 3, 4095 - 7 - three, n, false, PAIR, a, SOME, v);
                    meaning("SOME " + v + " of PAIR " + a + ", 1", 3, one, n, true, PAIR, a, SOME, v);
                    meaning("MANY " + v + " of PAIR " + a + ", 1", 3, one, n, false, PAIR, a, MANY, v);
                    meaning("MANY " + v + " of PAIR " + a + ", 2", 3, two, n, true, PAIR, a, MANY, v);
                    meaning("ALL " + v + " of PAIR " + a + ", 2", 3, two, n, false, PAIR, a, ALL, v);
                    meaning("ALL " + v + " of PAIR " + a + ", 3", 3, three, n, true, PAIR, a, ALL, v);
                    meaning("MANY " + (v + 3) + " of PAIR " + a + ", 3", 3, three, n, true, PAIR, a, MANY, v + 3);
                    meaning("MANY " + (v + 3) + " of PAIR " + a + ", 2", 3, two, n, false, PAIR, a, MANY, v + 3);
                }
            }
        }
    }

    private static void drop() {
        promise = "4 drop";
        TinyModels x = new TinyModels();
        due("drop() on an empty stack", x.drop(), -1);
        put(x, HAS, 0, HAS, 0, NOT, 0, PAIR, V00);
        due("drop()", x.drop(), 2);
        due("lists(0) of what is the top then", x.lists(0), 8);
        due("drop()", x.drop(), 1);
        due("lists(0) of what is the top then", x.lists(0), 0);
        due("lists(1) of what is the top then", x.lists(1), 4);
        due("drop()", x.drop(), 0);
        due("drop() on an empty stack", x.drop(), -1);
        due("lists(0)", x.lists(0), -1);
        due("token(HAS, 0)", x.token(HAS, 0), 1);
        due("axiom()", x.axiom(), 1);
        due("drop() with an axiom alone", x.drop(), -1);
        due("retract(0)", x.retract(0), 0);
    }

    private static void axiom() {
        promise = "5 axiom";
        TinyModels x = new TinyModels();
        due("axiom() on an empty stack", x.axiom(), -1);
        put(x, PAIR, V00, HAS, 0);
        due("axiom()", x.axiom(), 1);
        due("models()", x.models(), 16);
        due("lists(0) of what is the top then", x.lists(0), 0);
        due("lists(4) of what is the top then", x.lists(4), 4);
        due("axiom()", x.axiom(), 2);
        due("models()", x.models(), 4);
        due("drop()", x.drop(), -1);
        for (int n = 3; n <= 6; n++) {
            put(x, SAME, V00);
            due("axiom()", x.axiom(), n);
        }
        due("axiom() on an empty stack with six axioms", x.axiom(), -1);
        put(x, HAS, 0, NOT, 0);
        due("axiom() with six axioms", x.axiom(), -2);
        due("models() after it", x.models(), 4);
        due("lists(0) after it", x.lists(0), 8);
        due("retract(5)", x.retract(5), 5);
        due("axiom()", x.axiom(), 6);
        due("models()", x.models(), 0);
        due("drop()", x.drop(), -1);
    }

    private static void retract() {
        promise = "6 retract";
        TinyModels x = new TinyModels();
        due("retract(0)", x.retract(0), -1);
        putAxiom(x, HAS, 0);
        putAxiom(x, PAIR, V00, NOT, 0);
        putAxiom(x, SAME, V01, PAIR, V01, OR, 0);
        put(x, HAS, 2);
        for (int i : new int[] {LEAST, -1, 3, 6, MOST}) {
            due("retract(" + i + ")", x.retract(i), -1);
            due("models() after the refused retract(" + i + ")", x.models(), 1);
        }
        due("next(-1)", x.next(-1), p(0) | p(1) | r(2, 0, 1) | r(2, 1, 0));
        due("retract(0)", x.retract(0), 2);
        due("forced(0)", x.forced(0), 2);
        due("forced(2)", x.forced(2), 0);
        due("forced(3)", x.forced(3), 1);
        due("retract(2)", x.retract(2), -1);
        due("retract(0)", x.retract(0), 1);
        due("forced(2)", x.forced(2), 2);
        due("forced(3)", x.forced(3), 1);
        due("models()", x.models(), 16);
        due("drop()", x.drop(), 0);
        due("retract(0)", x.retract(0), 0);
        due("models()", x.models(), 64);
        due("retract(0)", x.retract(0), -1);

        TinyModels six = new TinyModels();
        putAxiom(six, HAS, 0);
        putAxiom(six, SAME, V00);
        putAxiom(six, SAME, V11);
        putAxiom(six, PAIR, V00, NOT, 0, NOT, 0, NOT, 0);
        putAxiom(six, SAME, V00, SAME, V11, AND, 0);
        putAxiom(six, SAME, V01, PAIR, V01, OR, 0);
        due("retract(1) of six", six.retract(1), 5);
        due("models()", six.models(), 1);
        due("independent(1)", six.independent(1), 0);
        due("independent(2)", six.independent(2), 1);
        due("independent(4)", six.independent(4), 1);
        due("independent(5)", six.independent(5), -1);
        due("retract(2)", six.retract(2), 4);
        due("models()", six.models(), 4);
        due("retract(3), the last", six.retract(3), 3);
        due("models()", six.models(), 16);
    }

    private static void models() {
        promise = "7 models";
        TinyModels x = new TinyModels();
        put(x, HAS, 0, NOT, 0);
        due("models() with a formula and no axiom", x.models(), 64);
        putAxiom(x, PAIR, V01, PAIR, V10, IMPLIES, 0);
        due("models(), symmetric, 2", x.models(), 4 * 8);
        x.domain(3);
        due("models(), symmetric, 3", x.models(), 8 * 64);
        putAxiom(x, HAS, 2);
        due("models(), and all have P", x.models(), 64);
        putAxiom(x, HAS, 0, NOT, 0, SOME, 0);
        due("models(), and one has not", x.models(), 0);
        TinyModels transitive = withDomain(3);
        putAxiom(transitive, PAIR, V01, PAIR, V12, AND, 0, PAIR, 2, IMPLIES, 0);
        due("models(), transitive, 3", transitive.models(), 8 * 171);
        transitive.domain(2);
        due("models(), transitive, 2", transitive.models(), 4 * 13);
        transitive.domain(1);
        due("models(), transitive, 1", transitive.models(), 4);
        due("models() again", transitive.models(), 4);
    }

    private static void next() {
        promise = "8 next";
        TinyModels x = new TinyModels();
        due("next(-1)", x.next(-1), 0);
        due("next(LEAST)", x.next(LEAST), 0);
        due("next(0)", x.next(0), 1);
        due("next(62)", x.next(62), 63);
        due("next(63)", x.next(63), -2);
        due("next(64)", x.next(64), -2);
        due("next(MOST)", x.next(MOST), -2);
        due("next(MOST - 1)", x.next(MOST - 1), -2);
        x.domain(3);
        due("next(63)", x.next(63), 64);
        due("next(4094)", x.next(4094), 4095);
        due("next(4095)", x.next(4095), -2);
        x.domain(2);
        putAxiom(x, PAIR, V00);
        putAxiom(x, HAS, 0, SAME, V00, NOT, 0, OR, 0);
        int first = p(0) | p(1) | r(2, 0, 0) | r(2, 1, 1);
        int[] found = {first, first + 8, first + 16, first + 24};
        due("next(-7)", x.next(-7), found[0]);
        due("next of one less than the first", x.next(first - 1), found[0]);
        due("next of the first", x.next(found[0]), found[1]);
        due("next of the second", x.next(found[1]), found[2]);
        due("next of one less than the fourth", x.next(found[3] - 1), found[3]);
        due("next of the fourth", x.next(found[3]), -2);
        putAxiom(x, HAS, 0, NOT, 0);
        due("next(-1) without a model", x.next(-1), -2);
        due("next(LEAST) without a model", x.next(LEAST), -2);
    }

    private static void isModel() {
        promise = "9 isModel";
        TinyModels x = new TinyModels();
        due("isModel(0)", x.isModel(0), 1);
        putAxiom(x, HAS, 0);
        for (int m = 0; m < 64; m++) {
            due("isModel(" + m + ")", x.isModel(m), m % 4 == 3 ? 1 : 0);
        }
        for (int m : new int[] {LEAST, -1, 64, MOST}) {
            due("isModel(" + m + ")", x.isModel(m), -1);
        }
        x.domain(1);
        due("isModel(3) with 1", x.isModel(3), 1);
        due("isModel(2) with 1", x.isModel(2), 0);
        due("isModel(4) with 1", x.isModel(4), -1);
        x.domain(3);
        due("isModel(3) with 3", x.isModel(3), 0);
        due("isModel(4095) with 3", x.isModel(4095), 1);
        due("isModel(4096) with 3", x.isModel(4096), -1);
        putAxiom(x, PAIR, V00);
        due("isModel(7) with a second axiom", x.isModel(7), 0);
        due("isModel(4095) with a second axiom", x.isModel(4095), 1);
    }

    private static void shapes() {
        promise = "10 shapes";
        TinyModels x = new TinyModels();
        due("shapes() with 2", x.shapes(), 36);
        x.domain(1);
        due("shapes() with 1", x.shapes(), 4);
        x.domain(3);
        due("shapes() with 3", x.shapes(), 752);
        putAxiom(x, PAIR, 8, NOT, 0);
        putAxiom(x, HAS, 0, NOT, 0);
        due("shapes(), simple digraphs with 3", x.shapes(), 16);
        x.domain(2);
        due("shapes(), simple digraphs with 2", x.shapes(), 3);
        x.domain(3);
        putAxiom(x, PAIR, V01, PAIR, V10, IMPLIES, 0);
        due("shapes(), simple graphs with 3", x.shapes(), 4);
        putAxiom(x, HAS, 0);
        due("shapes() without a model", x.shapes(), 0);
    }

    private static void sameShape() {
        promise = "11 sameShape";
        TinyModels x = new TinyModels();
        int tail = p(0) | r(2, 0, 1);
        int head = p(1) | r(2, 0, 1);
        due("itself", x.sameShape(tail, tail), 1);
        due("the elements changed", x.sameShape(tail, p(1) | r(2, 1, 0)), 1);
        due("P at the other end", x.sameShape(tail, head), 0);
        due("fewer with P", x.sameShape(1, 3), 0);
        due("a loop and none", x.sameShape(r(2, 0, 0), r(2, 0, 1)), 0);
        due("two loops", x.sameShape(r(2, 0, 0), r(2, 1, 1)), 1);
        int[] wrongs = {LEAST, -1, 64, MOST};
        for (int m : wrongs) {
            due("sameShape(" + m + ", 0)", x.sameShape(m, 0), -1);
            due("sameShape(0, " + m + ")", x.sameShape(0, m), -1);
            due("sameShape(" + m + ", " + m + ")", x.sameShape(m, m), -1);
        }
        putAxiom(x, HAS, 0, NOT, 0);
        due("with numbers of no model", x.sameShape(1, 2), 1);
        x.domain(1);
        due("sameShape(1, 2) with 1", x.sameShape(1, 2), 0);
        due("sameShape(3, 3) with 1", x.sameShape(3, 3), 1);
        due("sameShape(3, 4) with 1", x.sameShape(3, 4), -1);
        x.domain(3);
        int round = r(3, 0, 1) | r(3, 1, 2) | r(3, 2, 0);
        int back = r(3, 1, 0) | r(3, 2, 1) | r(3, 0, 2);
        due("round both ways", x.sameShape(round, back), 1);
        due("round with one P", x.sameShape(round | p(0), round | p(2)), 1);
        due("round with one P both ways", x.sameShape(round | p(0), back | p(1)), 1);
        due("round and a loop", x.sameShape(round, r(3, 0, 1) | r(3, 1, 2) | r(3, 2, 2)), 0);
        int marked = p(0) | r(3, 1, 1) | r(3, 0, 2);
        due("a map of three", x.sameShape(marked, p(1) | r(3, 2, 2) | r(3, 1, 0)), 1);
        due("the map of three back", x.sameShape(marked, p(2) | r(3, 0, 0) | r(3, 2, 1)), 1);
        due("with an arrow the other way", x.sameShape(marked, p(1) | r(3, 2, 2) | r(3, 0, 1)), 0);
        due("sameShape(4095, 4095)", x.sameShape(4095, 4095), 1);
        due("sameShape(4095, 4096)", x.sameShape(4095, 4096), -1);
    }

    private static void symmetries() {
        promise = "12 symmetries";
        TinyModels x = new TinyModels();
        due("symmetries(0) with 2", x.symmetries(0), 2);
        due("symmetries(63) with 2", x.symmetries(63), 2);
        due("symmetries(1) with 2", x.symmetries(1), 1);
        due("one arrow with 2", x.symmetries(r(2, 0, 1)), 1);
        due("two arrows with 2", x.symmetries(r(2, 0, 1) | r(2, 1, 0)), 2);
        due("one loop with 2", x.symmetries(r(2, 1, 1)), 1);
        for (int m : new int[] {LEAST, -1, 64, MOST}) {
            due("symmetries(" + m + ")", x.symmetries(m), -1);
        }
        putAxiom(x, HAS, 0);
        due("with a number of no model", x.symmetries(0), 2);
        x.domain(1);
        for (int m = 0; m < 4; m++) {
            due("symmetries(" + m + ") with 1", x.symmetries(m), 1);
        }
        due("symmetries(4) with 1", x.symmetries(4), -1);
        x.domain(3);
        int round = r(3, 0, 1) | r(3, 1, 2) | r(3, 2, 0);
        due("symmetries(0) with 3", x.symmetries(0), 6);
        due("symmetries(4095) with 3", x.symmetries(4095), 6);
        due("symmetries(1) with 3", x.symmetries(1), 2);
        due("round", x.symmetries(round), 3);
        due("round with a P", x.symmetries(round | p(1)), 1);
        due("one arrow with 3", x.symmetries(r(3, 2, 0)), 1);
        due("arrows to one", x.symmetries(r(3, 0, 1) | r(3, 2, 1)), 2);
        due("symmetries(4096) with 3", x.symmetries(4096), -1);
    }

    private static void forced() {
        promise = "13 forced";
        TinyModels x = new TinyModels();
        for (int b = 0; b < 6; b++) {
            due("forced(" + b + ") without axioms", x.forced(b), 2);
        }
        for (int b : new int[] {LEAST, -1, 6, 7, 32, MOST}) {
            due("forced(" + b + ")", x.forced(b), -1);
        }
        putAxiom(x, HAS, 0, NOT, 0);
        putAxiom(x, PAIR, V00);
        int[] want = {0, 0, 1, 2, 2, 1};
        for (int b = 0; b < 6; b++) {
            due("forced(" + b + ")", x.forced(b), want[b]);
        }
        x.domain(3);
        int[] wantOfThree = {0, 0, 0, 1, 2, 2, 2, 1, 2, 2, 2, 1};
        for (int b = 0; b < 12; b++) {
            due("forced(" + b + ") with 3", x.forced(b), wantOfThree[b]);
        }
        due("forced(12) with 3", x.forced(12), -1);
        x.domain(1);
        due("forced(0) with 1", x.forced(0), 0);
        due("forced(1) with 1", x.forced(1), 1);
        due("forced(2) with 1", x.forced(2), -1);
        putAxiom(x, HAS, 0);
        due("forced(0) without a model", x.forced(0), 3);
        due("forced(1) without a model", x.forced(1), 3);
        due("forced(2) without a model", x.forced(2), -1);
        due("forced(-1) without a model", x.forced(-1), -1);
        TinyModels ends = new TinyModels();
        putAxiom(ends, HAS, 0, HAS, 1, IFF, 0);
        putAxiom(ends, HAS, 0, PAIR, 8, IFF, 0);
        putAxiom(ends, HAS, 0, PAIR, V12, IFF, 0);
        due("models(), the first and the last", ends.models(), 2);
        due("forced(0), the first and the last", ends.forced(0), 2);
        due("forced(5), the first and the last", ends.forced(5), 2);
        putAxiom(ends, HAS, 0);
        due("forced(0), the last alone", ends.forced(0), 1);
        ends.retract(3);
        putAxiom(ends, HAS, 0, NOT, 0);
        due("forced(0), the first alone", ends.forced(0), 0);
    }

    private static void holds() {
        promise = "14 holds";
        TinyModels x = new TinyModels();
        due("holds(0, 0) on an empty stack", x.holds(0, 0), -1);
        putAxiom(x, HAS, 0);
        due("holds(0, 0) with an axiom alone", x.holds(0, 0), -1);
        put(x, HAS, 0, PAIR, V21);
        int m = r(2, 1, 0);
        due("not a model, holds", x.holds(m, list(0, 0, 1)), 1);
        due("the other pair", x.holds(m, list(0, 1, 0)), 0);
        due("what variable 0 has is nothing to it", x.holds(m, list(1, 0, 1)), 1);
        for (int n : new int[] {LEAST, -1, 64, MOST}) {
            due("holds(" + n + ", 0)", x.holds(n, 0), -1);
        }
        for (int n : new int[] {LEAST, -32, -1, 27, 32, 59, MOST}) {
            due("holds(0, " + n + ")", x.holds(0, n), -1);
        }
        for (int d = 1; d <= 3; d++) {
            x.domain(d);
            for (int n = 0; n < 27; n++) {
                boolean inside = n % 3 < d && n / 3 % 3 < d && n / 9 < d;
                due("holds(0, " + n + ") with " + d, x.holds(0, n), inside ? 0 : -1);
                due("holds(all, " + n + ") with " + d, x.holds((1 << (d + d * d)) - 1, n), inside ? 1 : -1);
            }
        }
        due("drop()", x.drop(), 1);
        due("the formula below", x.holds(p(2), list(2, 0, 1)), 1);
        due("the formula below", x.holds(p(2), list(0, 2, 2)), 0);
    }

    private static void lists() {
        promise = "15 lists";
        TinyModels x = new TinyModels();
        due("lists(0) on an empty stack", x.lists(0), -1);
        put(x, SAME, V00);
        for (int d = 1; d <= 3; d++) {
            x.domain(d);
            due("lists of what is always so, " + d, x.lists(0), d * d * d);
            put(x, NOT, 0);
            due("lists of what is never so, " + d, x.lists(0), 0);
            put(x, NOT, 0);
        }
        put(x, HAS, 1);
        due("lists(1) of HAS with 3", x.lists(1), 9);
        due("lists(5) of HAS with 3", x.lists(5), 18);
        put(x, SAME, V12, AND, 0);
        due("lists(5) of HAS and SAME with 3", x.lists(5), 6);
        putAxiom(x, HAS, 0, NOT, 0);
        due("lists(5), not a model", x.lists(5), 6);
        for (int m : new int[] {LEAST, -1, 4096, MOST}) {
            due("lists(" + m + ")", x.lists(m), -1);
        }
        x.domain(2);
        due("lists(3) with 2", x.lists(3), 4);
        due("lists(64) with 2", x.lists(64), -1);
    }

    private static void follows() {
        promise = "16 follows";
        TinyModels x = new TinyModels();
        due("follows() on an empty stack", x.follows(), -1);
        put(x, HAS, 0, HAS, 0, NOT, 0, OR, 0);
        due("follows() of what is always so", x.follows(), 1);
        put(x, REACH, V01);
        due("follows() of REACH", x.follows(), 0);
        putAxiom(x, SAME, V01, PAIR, V01, OR, 0);
        due("follows() of REACH, all others related", x.follows(), 1);
        put(x, PAIR, V01);
        due("follows() of PAIR", x.follows(), 0);
        x.domain(1);
        due("follows() of PAIR with 1", x.follows(), 0);
        put(x, SAME, V01);
        due("follows() of SAME with 1", x.follows(), 1);
        x.domain(3);
        due("follows() of SAME with 3", x.follows(), 0);
        putAxiom(x, HAS, 0, NOT, 0);
        due("follows() of SAME, there being models", x.follows(), 0);
        putAxiom(x, HAS, 0);
        due("follows() without a model", x.follows(), 1);
        TinyModels open = new TinyModels();
        putAxiom(open, HAS, 0, SOME, 0);
        put(open, HAS, 0);
        due("follows() of what holds for some lists alone", open.follows(), 0);
        TinyModels ends = new TinyModels();
        put(ends, HAS, 0, SOME, 0, PAIR, V01, SOME, 0, SOME, 1, OR, 0);
        due("follows(), but for the first", ends.follows(), 0);
        put(ends, HAS, 0, PAIR, V12, AND, 0, ALL, 0, ALL, 1, ALL, 2, NOT, 0);
        due("follows(), but for the last", ends.follows(), 0);
    }

    private static void agreeing() {
        promise = "17 agreeing";
        TinyModels x = new TinyModels();
        due("agreeing() on an empty stack", x.agreeing(), -1);
        put(x, HAS, 0);
        due("agreeing() without axioms", x.agreeing(), 16);
        putAxiom(x, PAIR, V00);
        due("agreeing() with an axiom", x.agreeing(), 4);
        put(x, SOME, 0);
        due("agreeing(), some have P", x.agreeing(), 12);
        x.domain(3);
        due("agreeing(), some have P, 3", x.agreeing(), 7 * 64);
        x.domain(1);
        due("agreeing(), some have P, 1", x.agreeing(), 1);
        putAxiom(x, HAS, 0, NOT, 0);
        due("agreeing(), none has P", x.agreeing(), 0);
        due("models()", x.models(), 1);
        putAxiom(x, HAS, 0);
        due("agreeing() without a model", x.agreeing(), 0);
        TinyModels ends = new TinyModels();
        put(ends, HAS, 0, NOT, 0, PAIR, V12, NOT, 0, AND, 0);
        due("agreeing(), the first alone", ends.agreeing(), 1);
        put(ends, HAS, 0, PAIR, V12, AND, 0);
        due("agreeing(), the last alone", ends.agreeing(), 1);
    }

    private static void alike() {
        promise = "18 alike";
        TinyModels x = new TinyModels();
        due("alike() on an empty stack", x.alike(), -1);
        put(x, HAS, 0);
        due("alike() on one formula", x.alike(), -1);
        put(x, HAS, 1);
        due("alike(), valid in the same interpretations", x.alike(), 0);
        x.domain(1);
        due("alike() with 1", x.alike(), 1);
        x.domain(2);
        put(x, HAS, 1, NOT, 0, NOT, 0);
        due("alike(), the top two of three", x.alike(), 1);
        due("drop()", x.drop(), 2);
        due("drop()", x.drop(), 1);
        put(x, PAIR, V01, PAIR, V10);
        due("alike() of PAIR both ways", x.alike(), 0);
        putAxiom(x, PAIR, V01, PAIR, V10, IMPLIES, 0);
        due("alike() of PAIR both ways, symmetric", x.alike(), 1);
        x.domain(3);
        due("alike() of PAIR both ways, symmetric, 3", x.alike(), 1);
        due("drop()", x.drop(), 2);
        due("alike() of HAS and PAIR", x.alike(), 0);
        putAxiom(x, SAME, V00, NOT, 0);
        due("alike() without a model", x.alike(), 1);
        due("drop()", x.drop(), 1);
        due("alike() on one formula without a model", x.alike(), -1);
        TinyModels ends = new TinyModels();
        put(ends, SAME, V00, HAS, 0, SOME, 0, PAIR, V01, SOME, 0, SOME, 1, OR, 0);
        due("alike(), but for the first", ends.alike(), 0);
        put(ends, SAME, V00, NOT, 0, HAS, 0, PAIR, V12, AND, 0, ALL, 0, ALL, 1, ALL, 2);
        due("alike(), but for the last", ends.alike(), 0);
    }

    private static void independent() {
        promise = "19 independent";
        TinyModels x = new TinyModels();
        due("independent(0) without axioms", x.independent(0), -1);
        putAxiom(x, HAS, 0);
        due("independent(0) of HAS", x.independent(0), 1);
        putAxiom(x, HAS, 1);
        due("independent(0) of the same twice", x.independent(0), 0);
        due("independent(1) of the same twice", x.independent(1), 0);
        putAxiom(x, PAIR, V00);
        due("independent(2) of PAIR", x.independent(2), 1);
        for (int i : new int[] {LEAST, -1, 3, 6, MOST}) {
            due("independent(" + i + ")", x.independent(i), -1);
        }
        putAxiom(x, HAS, 2, NOT, 0);
        due("independent(3), there being no model", x.independent(3), 1);
        due("independent(0), there being no model", x.independent(0), 0);
        due("independent(2), the others having none", x.independent(2), 0);
        due("models() after it", x.models(), 0);

        TinyModels size = withDomain(1);
        putAxiom(size, SAME, V01);
        due("independent(0) of SAME with 1", size.independent(0), 0);
        size.domain(2);
        due("independent(0) of SAME with 2", size.independent(0), 1);
        putAxiom(size, HAS, 0, HAS, 1, IMPLIES, 0);
        due("independent(1) of what follows", size.independent(1), 0);
        due("independent(0)", size.independent(0), 1);

        TinyModels ends = new TinyModels();
        putAxiom(ends, HAS, 0, SOME, 0, PAIR, V01, SOME, 0, SOME, 1, OR, 0);
        due("independent(0), through the first alone", ends.independent(0), 1);
        putAxiom(ends, HAS, 0, PAIR, V12, AND, 0, ALL, 0, ALL, 1, ALL, 2, NOT, 0);
        due("independent(1), through the last alone", ends.independent(1), 1);
    }

    private static void smallest() {
        promise = "20 smallest";
        TinyModels x = withDomain(3);
        due("smallest() without axioms", x.smallest(), 1);
        putAxiom(x, HAS, 0);
        due("smallest() of HAS", x.smallest(), 1);
        putAxiom(x, PAIR, V00, MANY, 0);
        due("smallest(), two loops", x.smallest(), 2);
        due("models() after it, 3 as before", x.models(), 4 * 64);
        x.domain(1);
        due("smallest(), two loops, now 1", x.smallest(), 2);
        due("models() after it, 1 as before", x.models(), 0);
        due("domain lists after it", x.next(3), -2);
        putAxiom(x, PAIR, V00, NOT, 0, SOME, 0);
        due("smallest(), two loops and one without", x.smallest(), 3);
        x.domain(2);
        due("smallest(), now 2", x.smallest(), 3);
        putAxiom(x, SAME, V01);
        due("smallest() without a model", x.smallest(), 0);
        TinyModels three = new TinyModels();
        putAxiom(three, SAME, V00, MANY, 3);
        due("smallest(), at least three", three.smallest(), 3);
        due("isModel(64) after it", three.isModel(64), -1);
        TinyModels first = new TinyModels();
        putAxiom(first, HAS, 0, PAIR, V12, OR, 0, NOT, 0);
        due("smallest(), the first alone", first.smallest(), 1);
        TinyModels last = new TinyModels();
        putAxiom(last, HAS, 0, PAIR, V12, AND, 0);
        due("smallest(), the last alone", last.smallest(), 1);
    }

    private static void changeNothing() {
        promise = "the calls that change nothing";
        TinyModels x = new TinyModels();
        putAxiom(x, PAIR, V01, PAIR, V10, IMPLIES, 0);
        put(x, HAS, 0, HAS, 1, PAIR, V11);
        for (int round = 0; round < 2; round++) {
            due("models()", x.models(), 32);
            due("next(-1)", x.next(-1), 0);
            due("isModel(8)", x.isModel(8), 0);
            due("shapes()", x.shapes(), 20);
            due("sameShape(1, 2)", x.sameShape(1, 2), 1);
            due("symmetries(1)", x.symmetries(1), 1);
            due("forced(0)", x.forced(0), 2);
            due("holds(4, 0)", x.holds(4, 0), 1);
            due("lists(4)", x.lists(4), 4);
            due("follows()", x.follows(), 0);
            due("agreeing()", x.agreeing(), 8);
            due("alike()", x.alike(), 0);
            due("independent(0)", x.independent(0), 1);
            due("smallest()", x.smallest(), 1);
        }
        due("drop()", x.drop(), 2);
        due("retract(0)", x.retract(0), 0);
    }

    public static void main(String[] args) {
        newObject();
        domain();
        tokenArguments();
        tokenStack();
        tokenLength();
        tokenMeaning();
        quantifierMeaning();
        drop();
        axiom();
        retract();
        models();
        next();
        isModel();
        shapes();
        sameShape();
        symmetries();
        forced();
        holds();
        lists();
        follows();
        agreeing();
        alike();
        independent();
        smallest();
        changeNothing();
        System.out.println(wrong == 0 ? "all answers are as due" : wrong + " answers are not as due");
        if (wrong != 0) {
            System.exit(1);
        }
    }
}
