import java.util.ArrayList;
import java.util.List;

/** The boundary cases that the document names for queries about variables and clauses: promises 25 to 34. */
public final class BoundaryQueriesTest extends Checks {

    public static void main(String[] args) {
        resolvents();
        resolventRefuses();
        blockingLiteral();
        extensionGrows();
        extensionEnds();
        coverPairs();
        vivificationSteps();
        vivified();
        propagation();
        propagationInAnyOrder();
        implied();
        propagate();
        reachable();
        representative();
        finish();
    }

    // ---- promises 25 and 26

    private static String resolvent(CnfPreprocessor x, int variable, int index) {
        return clauseOf(x.resolvent(variable, index, true), x.resolvent(variable, index, false));
    }

    /** 16 clauses with variable 0 and the subsets of 4 variables, and 16 with its complement and those of 4 others. */
    private static CnfPreprocessor manyResolvents() {
        CnfPreprocessor x = formula(10);
        for (int subset = 0; subset < 16; subset++) {
            x.addClause(1 | subset << 1, 0);
        }
        for (int subset = 0; subset < 16; subset++) {
            x.addClause(0, 1 | subset << 5);
        }
        return x;
    }

    /**
     * A list with 32 clauses that contain variable 2, half of which are resolvents themselves, and with 16 that contain
     * its complement. They have no other variable in common, so that no two resolvents are equal.
     */
    private static CnfPreprocessor mostResolvents() {
        CnfPreprocessor x = formula(10);
        x.setGrowth(8);
        int[][] singles = {c(4), c(-4), c(5), c(-5)};
        int[][] doubles = {c(4, 5), c(4, -5), c(-4, 5), c(-4, -5)};
        int[] others = {6, -6, 7, -7};
        for (int i = 0; i < 4; i++) {
            add(x, 1, 3, singles[i][0]);
            add(x, -1, others[i]);
            add(x, 2, 3, doubles[i][0], doubles[i][1]);
            add(x, -2, others[i]);
        }
        for (int i = 0; i < 16; i++) {
            int ninth = i / 3 % 3;
            int tenth = i % 3;
            x.addClause((i / 9) << 7 | (ninth == 1 ? 256 : 0) | (tenth == 1 ? 512 : 0),
                    4 | (ninth == 2 ? 256 : 0) | (tenth == 2 ? 512 : 0));
        }
        x.eliminate(0);
        x.eliminate(1);
        return x;
    }

    private static void resolvents() {
        sentence("Terms", "for each clause C of the list that contains the positive literal of v, in order, and for each"
                + " clause D that contains its negative literal, in order", () -> {
            CnfPreprocessor x = formula(5, c(-1, 2), c(1, 3), c(2, 3), c(1, 4), c(-1, 5));
            is("resolventCount(0)", x.resolventCount(0), 4);
            is("resolvent 0", resolvent(x, 0, 0), "2 3 ");
            is("resolvent 1", resolvent(x, 0, 1), "3 5 ");
            is("resolvent 2", resolvent(x, 0, 2), "2 4 ");
            is("resolvent 3", resolvent(x, 0, 3), "4 5 ");
            CnfPreprocessor last = formula(10, c(10, 1), c(-10, -2));
            is("resolvent 0 of the last variable", resolvent(last, 9, 0), "1 -2 ");
        });
        sentence("Terms", "If they contain no complementary literals, and this clause is not among the resolvents yet",
                () -> {
            CnfPreprocessor x = formula(4, c(1, 2), c(-1, -2), c(1, 3), c(-1, 3), c(1, 3, 3), c(-1, 3));
            is("resolventCount(0)", x.resolventCount(0), 3);
            is("resolvent 0", resolvent(x, 0, 0), "2 3 ");
            is("resolvent 1", resolvent(x, 0, 1), "-2 3 ");
            is("resolvent 2", resolvent(x, 0, 2), "3 ");
            CnfPreprocessor none = formula(4, c(1, 2, 3), c(-1, -3, 4));
            is("resolventCount(0) if all have complementary literals", none.resolventCount(0), 0);
        });
        sentence("Promise 25", "Returns the number of resolvents; 0 if the variable does not occur in the list.", () -> {
            is("resolventCount(0) without clauses", formula(1).resolventCount(0), 0);
            is("resolventCount(0) of one clause", formula(1, c(1)).resolventCount(0), 0);
            is("resolventCount(0) of equal clauses", formula(1, c(-1), c(-1)).resolventCount(0), 0);
            is("resolventCount(0) with an empty one", formula(1, c(-1), c(1), c(1)).resolventCount(0), 1);
            is("resolventCount(2) beside other clauses", formula(3, c(1), c(-1)).resolventCount(2), 0);
            is("resolventCount(0) of a contradictory formula", formula(1, c(1), c()).resolventCount(0), 0);
            is("resolventCount(0) of 32 clauses", manyResolvents().resolventCount(0), 256);
            is("resolventCount(2) of a full list", fullList().resolventCount(2), 6);
            is("resolventCount(2) of 32 times 16", mostResolvents().resolventCount(2), 512);
        });
        sentence("Promise 25", "Throws IndexOutOfBoundsException if there is no such variable", () -> {
            for (int variables = 1; variables <= 10; variables++) {
                CnfPreprocessor x = formula(variables, c(variables), c(-variables));
                is("resolventCount of the last variable", x.resolventCount(variables - 1), 1);
                refusesBeyond("resolventCount with " + variables + " variables", x, INDEX, variables, x::resolventCount);
            }
        });
        sentence("Promise 25", "Throws IllegalStateException if the variable is not active", () -> {
            CnfPreprocessor x = retired();
            for (int v = 1; v <= 3; v++) {
                int variable = v;
                refuses("resolventCount(" + v + ")", x, STATE, () -> x.resolventCount(variable));
            }
            is("resolventCount(0)", x.resolventCount(0), 0);
            is("resolventCount(4)", x.resolventCount(4), 0);
        });
    }

    /** Variable 1 is fixed, 2 eliminated, 3 substituted by 0; 0 and 4 are active. */
    private static CnfPreprocessor retired() {
        CnfPreprocessor x = formula(5, c(2), c(3, 5), c(4, -1), c(-4, 1), c(1, 5));
        x.apply(0);
        x.eliminate(2);
        x.apply(8);
        return x;
    }

    interface ClauseQuery {
        Object of(CnfPreprocessor x, int index);
    }

    private static void refusesClause(String where, ClauseQuery query) {
        sentence(where, "Throws IndexOutOfBoundsException if there is no such clause", () -> {
            CnfPreprocessor none = formula(3);
            refusesBeyond("the call without clauses", none, INDEX, 0, i -> query.of(none, i));
            CnfPreprocessor three = formula(3, c(1, 2), c(2, 3), c(1));
            query.of(three, 0);
            query.of(three, 2);
            refusesBeyond("the call for three clauses", three, INDEX, 3, i -> query.of(three, i));
            three.apply(2);
            refusesBeyond("the call after one of three is removed", three, INDEX, 2, i -> query.of(three, i));
            CnfPreprocessor empty = formula(3, c(1), c());
            query.of(empty, 0);
            refusesBeyond("the call for a contradictory formula", empty, INDEX, 1, i -> query.of(empty, i));
            CnfPreprocessor full = fullList();
            query.of(full, 47);
            refusesBeyond("the call for a full list", full, INDEX, 48, i -> query.of(full, i));
        });
    }

    private static void resolventRefuses() {
        sentence("Promise 26", "Returns a set of a resolvent.", () -> {
            CnfPreprocessor x = formula(10, c(1, 9, -10), c(-1, 8, -2));
            is("resolvent(0, 0, true)", x.resolvent(0, 0, true), 256 + 128);
            is("resolvent(0, 0, false)", x.resolvent(0, 0, false), 512 + 2);
            CnfPreprocessor empty = formula(10, c(1), c(-1));
            is("resolvent(0, 0, true), the empty one", empty.resolvent(0, 0, true), 0);
            is("resolvent(0, 0, false), the empty one", empty.resolvent(0, 0, false), 0);
            CnfPreprocessor many = manyResolvents();
            is("resolvent(0, 0, true) of 256", many.resolvent(0, 0, true), 0);
            is("resolvent(0, 255, true) of 256", many.resolvent(0, 255, true), 15 << 1);
            is("resolvent(0, 255, false) of 256", many.resolvent(0, 255, false), 15 << 5);
        });
        sentence("Promise 26", "Throws IndexOutOfBoundsException if there is no such variable", () -> {
            for (int variables = 1; variables <= 10; variables++) {
                CnfPreprocessor x = formula(variables, c(variables), c(-variables));
                is("resolvent of the last variable", x.resolvent(variables - 1, 0, true), 0);
                refusesBeyond("resolvent with " + variables + " variables", x, INDEX, variables,
                        v -> x.resolvent(v, 0, true));
            }
        });
        sentence("Promise 26", "or the variable is active and there is no such resolvent", () -> {
            CnfPreprocessor x = formula(3, c(1, 2), c(-1, 3));
            refusesBeyond("resolvent of 1", x, INDEX, 1, i -> x.resolvent(0, i, true));
            refusesBeyond("resolvent of none", x, INDEX, 0, i -> x.resolvent(1, i, true));
            CnfPreprocessor absent = formula(3, c(1));
            refusesBeyond("resolvent of what does not occur", absent, INDEX, 0, i -> absent.resolvent(2, i, false));
            CnfPreprocessor many = manyResolvents();
            refusesBeyond("resolvent of 256", many, INDEX, 256, i -> many.resolvent(0, i, false));
            CnfPreprocessor most = mostResolvents();
            // The last clauses are 3 -4 -5 -7 and -3 8 -9, as 15 is 1 2 0 to the base 3.
            is("resolvent(2, 511)", resolvent(most, 2, 511), "-4 -5 -7 8 -9 ");
            refusesBeyond("resolvent of 512", most, INDEX, 512, i -> most.resolvent(2, i, false));
        });
        sentence("Promise 26", "Throws IllegalStateException if the variable is not active", () -> {
            CnfPreprocessor x = retired();
            for (int v = 1; v <= 3; v++) {
                int variable = v;
                refuses("resolvent(" + v + ", 0, true)", x, STATE, () -> x.resolvent(variable, 0, true));
                refuses("resolvent(" + v + ", -1, true)", x, STATE, () -> x.resolvent(variable, -1, true));
                refuses("resolvent(" + v + ", 99, true)", x, STATE, () -> x.resolvent(variable, 99, true));
            }
            refuses("resolvent(5, 99, true)", x, INDEX, () -> x.resolvent(5, 99, true));
        });
    }

    // ---- promise 27

    private static void blockingLiteral() {
        sentence("Terms", "A literal l of a clause C of the list blocks C if for each clause D of the list that contains"
                + " the complement of l", () -> {
            is("no such clause", formula(3, c(1)).blockingLiteral(0), 0);
            is("one clause that clashes", formula(3, c(1, 2), c(-1, -2)).blockingLiteral(0), 0);
            is("one of two clauses does not clash",
                    formula(3, c(1, 2), c(-1, -2), c(-1, 3), c(-2)).blockingLiteral(0), NONE);
            is("both of two clauses clash", formula(3, c(1, 2), c(-1, -2), c(-1, 3, -2)).blockingLiteral(0), 0);
        });
        sentence("Terms", "the literals of C without l and of D without the complement of l, taken together, contain"
                + " complementary literals", () -> {
            is("l and its complement do not count", formula(3, c(1), c(-1)).blockingLiteral(0), NONE);
            is("two clashes", formula(3, c(1, 2, 3), c(-1, -2, -3)).blockingLiteral(0), 0);
            is("the last variable", formula(10, c(10, 9), c(-10, -9), c(-9)).blockingLiteral(0), 18);
        });
        sentence("Promise 27", "Finds the lowest literal that blocks a clause of the list.", () -> {
            is("the first of two", formula(3, c(2, 3)).blockingLiteral(0), 2);
            is("the second one", formula(3, c(2, 3), c(-2)).blockingLiteral(0), 4);
            is("a negative one", formula(3, c(-1, -2), c(1)).blockingLiteral(0), 3);
            is("the highest literal", formula(10, c(1, -10), c(-1)).blockingLiteral(0), 19);
        });
        sentence("Promise 27", "Returns the literal; NONE if there is none.", () -> {
            CnfPreprocessor four = formula(2, c(1, 2), c(-1, 2), c(1, -2), c(-1, -2));
            for (int i = 0; i < 4; i++) {
                is("blockingLiteral(" + i + ") of four clauses", four.blockingLiteral(i), NONE);
            }
            is("blockingLiteral(0) of the empty clause", formula(2, c()).blockingLiteral(0), NONE);
            is("blockingLiteral(47) of a full list", fullList().blockingLiteral(47), 12);
        });
        refusesClause("Promise 27", (x, i) -> x.blockingLiteral(i));
    }

    // ---- promises 28 and 29

    /** The number of pairs, and E at the end. */
    private static void grows(String what, CnfPreprocessor x, int pairs, String literals) {
        is("coverPairs(0), " + what, x.coverPairs(0), pairs);
        is("the extension, " + what, clauseOf(x.extension(0, true), x.extension(0, false)), literals);
    }

    /** The unit 1 and implications from each variable to the next one. */
    private static CnfPreprocessor chain() {
        CnfPreprocessor x = formula(10, c(1));
        for (int i = 1; i < 10; i++) {
            add(x, -i, i + 1);
        }
        return x;
    }

    private static void extensionGrows() {
        sentence("Terms", "E is C at first, and there are no pairs. The literals l of E are examined in ascending order.",
                () -> {
            grows("the lowest literal first", formula(3, c(1, 2), c(-2, 3)), 1, "1 2 ");
            grows("the second literal", formula(3, c(1, 2), c(-1, 2, 3), c(-1, -3)), 1, "1 2 ");
        });
        sentence("Terms", "Let R consist of the clauses D of the list, except C itself (but an equal clause counts)",
                () -> {
            grows("an equal clause", formula(3, c(1, 2), c(1, 2), c(-1, 3), c(-2)), 2, "1 2 3 ");
            grows("one of two equal clauses in R", formula(3, c(1), c(-1, 2), c(-1, 2)), 2, "1 2 ");
        });
        sentence("Terms", "such that the literals of E without l and of D without the complement of l, taken together,"
                + " contain no complementary literals", () -> {
            grows("a clash with C", formula(3, c(1, 2), c(-1, -2), c(-2)), 1, "1 2 ");
            grows("a clash with what was added", formula(3, c(1, 3), c(-1, 2), c(-2, -3), c(-3)), 2, "1 2 3 ");
            grows("l and its complement are no clash", formula(3, c(1), c(-1)), NONE, "1 ");
        });
        sentence("Terms", "Otherwise let X consist of all literals, except the complement of l, that are in each clause"
                + " of R and not in E.", () -> {
            grows("what two clauses have in common",
                    formula(6, c(1, 2), c(-1, 4, 5), c(-1, 4, 6), c(-4), c(-2)), NONE, "1 2 4 ");
            grows("two clauses without a common literal", formula(4, c(1), c(-1, 2), c(-1, 3)), NONE, "1 ");
            grows("several literals at once", formula(5, c(1), c(-1, -3, 4, -5), c(-4), c(3), c(5)), NONE,
                    "1 -3 4 -5 ");
            grows("what is in E already", formula(3, c(1, 2), c(-1, 2), c(-2)), NONE, "1 2 ");
        });
        sentence("Terms", "If X is not empty, the pair (E, l) is added, then X is added to E, and the literals of E are"
                + " examined again from the lowest one on.", () -> {
            grows("a lower literal is added", formula(3, c(3), c(-3, 1)), 2, "1 3 ");
            grows("a chain through all variables", chain(), 10, "1 2 3 4 5 6 7 8 9 10 ");
        });
    }

    private static void extensionEnds() {
        sentence("Terms", "If R is empty, the pair (E, l) is added, C is covered, and the extension ends.", () -> {
            grows("one clause alone", formula(3, c(-2)), 1, "-2 ");
            grows("the rest is not examined", formula(4, c(1, 2), c(-2, 3), c(-3, 4)), 1, "1 2 ");
            grows("the last literal of all", formula(10, c(10, -9), c(9)), 1, "-9 10 ");
        });
        sentence("Terms", "If X is empty, the next literal is examined. If no literal is left, C is not covered, and the"
                + " extension ends.", () -> {
            grows("the next literal", formula(3, c(1, 2), c(-1)), 1, "1 2 ");
            grows("no literal is left", formula(3, c(1, 2), c(-1), c(-2)), NONE, "1 2 ");
            CnfPreprocessor chain = chain();
            add(chain, -10);
            grows("no literal of all variables is left", chain, NONE, "1 2 3 4 5 6 7 8 9 10 ");
            grows("the empty clause", formula(3, c()), NONE, "");
        });
    }

    private static void coverPairs() {
        sentence("Promise 28", "Returns the number of pairs; NONE if the clause is not covered.", () -> {
            is("one pair", formula(1, c(1)).coverPairs(0), 1);
            is("ten pairs", chain().coverPairs(0), 10);
            is("coverPairs(9), which grows downwards", chain().coverPairs(9), 9);
            is("pairs were added, but it is not covered", formula(3, c(1), c(-1, 2), c(-2)).coverPairs(0), NONE);
            is("no pair was added", formula(1, c(1), c(-1)).coverPairs(0), NONE);
            is("the empty clause", formula(1, c()).coverPairs(0), NONE);
        });
        refusesClause("Promise 28", (x, i) -> x.coverPairs(i));
        sentence("Promise 29", "Returns a set of E at the end of the extension of a clause of the list, whether the"
                + " clause is covered or not.", () -> {
            CnfPreprocessor x = formula(10, c(1), c(-1, -10, 9), c(10), c(-9));
            is("coverPairs(0)", x.coverPairs(0), NONE);
            is("extension(0, true), not covered", x.extension(0, true), 257);
            is("extension(0, false), not covered", x.extension(0, false), 512);
            is("coverPairs(0) of a chain", chain().coverPairs(0), 10);
            is("extension(0, true), covered", chain().extension(0, true), 1023);
            is("extension(0, false), covered", chain().extension(0, false), 0);
            is("extension(0, true) of the empty clause", formula(1, c()).extension(0, true), 0);
        });
        refusesClause("Promise 29", (x, i) -> x.extension(i, true));
    }

    // ---- promise 30

    private static String vivified(CnfPreprocessor x, int index) {
        return clauseOf(x.vivified(index, true), x.vivified(index, false));
    }

    private static void vivificationSteps() {
        sentence("Terms", "if C has fewer than two literals, the result is C", () -> {
            is("one literal beside a contradiction", vivified(formula(3, c(-1), c(2), c(-2)), 0), "-1 ");
            is("one literal beside its complement", vivified(formula(3, c(1), c(-1)), 0), "1 ");
            is("the empty clause", vivified(formula(3, c()), 0), "");
            is("two literals beside a contradiction", vivified(formula(3, c(1, 3), c(2), c(-2)), 0), "");
        });
        sentence("Terms", "over all clauses except C itself (here and below, an equal clause counts)", () -> {
            CnfPreprocessor x = formula(3, c(1, 2, 3), c(1, 2, 3), c(-1), c(-2), c(-3));
            is("apply(9): the equal clause makes the first propagation fail", x.apply(9), 0);
            CnfPreprocessor one = formula(3, c(1, 2, 3), c(-1), c(-2), c(-3));
            is("apply(9): the clause itself does not", one.apply(9), 3);
        });
        sentence("Terms", "if this propagation fails, the result is the empty clause", () -> {
            is("ten literals", vivified(formula(10, c(1, 2, 3, 4, 5, 6, 7, 8, 9, 10), c(1), c(-1)), 0), "");
            is("a chain", vivified(formula(4, c(3, 4), c(1), c(-1, 2), c(-2, -1)), 0), "");
        });
        sentence("Terms", "if l is in T, it is added to K, and the examination ends", () -> {
            is("the first literal", vivified(formula(3, c(1, 2, 3), c(1)), 0), "1 ");
            is("the second literal", vivified(formula(3, c(1, 2, 3), c(2)), 0), "1 2 ");
            is("the last literal", vivified(formula(3, c(1, 2, 3), c(3)), 0), "1 2 3 ");
            is("after a propagation", vivified(formula(3, c(1, 2, 3), c(1, 2)), 0), "1 2 ");
        });
        sentence("Terms", "if the complement of l is in T, l is left out", () -> {
            is("the first literal", vivified(formula(3, c(1, 2, 3), c(-1)), 0), "2 3 ");
            is("the last literal", vivified(formula(3, c(1, 2, 3), c(-3)), 0), "1 2 ");
            is("after a propagation", vivified(formula(3, c(1, 2, 3), c(1, -2)), 0), "1 3 ");
        });
        sentence("Terms", "T becomes the result of the propagation of T and the complement of l over all clauses except"
                + " C itself; if this propagation fails, the examination ends", () -> {
            is("at the first literal", vivified(formula(4, c(1, 2, 3), c(1, 4), c(1, -4)), 0), "1 ");
            is("at the second literal", vivified(formula(4, c(1, 2, 3), c(1, 2, 4), c(1, 2, -4)), 0), "1 2 ");
            is("nowhere", vivified(formula(4, c(1, 2, 3)), 0), "1 2 3 ");
            is("the literals are examined in ascending order", vivified(formula(3, c(1, 2), c(1, -2)), 0), "1 ");
        });
        sentence("Terms", "The result is K.", () -> {
            is("all literals are left out", vivified(formula(3, c(1, 2, 3), c(-1), c(-2), c(-3)), 0), "");
            is("no literal is left out", vivified(formula(10, c(1, -2, 3, -4, 5, -6, 7, -8, 9, -10)), 0),
                    "1 -2 3 -4 5 -6 7 -8 9 -10 ");
        });
    }

    private static void vivified() {
        sentence("Promise 30", "Returns a set of the result of the vivification of a clause of the list. Nothing"
                + " changes.", () -> {
            CnfPreprocessor x = formula(10, c(1, -9, 10, -2), c(2));
            leaves("vivified(0, true)", x, () -> is("vivified(0, true)", x.vivified(0, true), 513));
            leaves("vivified(0, false)", x, () -> is("vivified(0, false)", x.vivified(0, false), 256));
            CnfPreprocessor fails = formula(3, c(1, 2), c(3), c(-3));
            leaves("vivified(0, false)", fails, () -> is("vivified(0, false)", fails.vivified(0, false), 0));
            is("contradictory()", fails.contradictory(), false);
        });
        refusesClause("Promise 30", (x, i) -> x.vivified(i, true));
    }

    // ---- promises 31 and 32

    private static void propagation() {
        sentence("Terms", "If a clause contains no literal of T, and the complements of all its literals are in T, the"
                + " propagation fails.", () -> {
            is("two clauses of two literals", formula(3, c(-1, 2), c(-1, -2)).propagate(0), NONE);
            is("a clause of one literal", formula(3, c(1)).propagate(1), NONE);
            is("the empty clause", formula(3, c()).propagate(0), NONE);
            is("a clause with a literal of T", formula(3, c(1, -2), c(2)).propagate(0), literals(1, 2));
            is("clauses without the literal", formula(3, c(2), c(-2)).propagate(0), NONE);
        });
        sentence("Terms", "If a clause contains no literal of T, and the complements of all its literals except one are"
                + " in T, this literal is added to T.", () -> {
            is("all except one", formula(4, c(-1, 2), c(-1, -2, 3)).propagate(0), literals(1, 2, 3));
            is("all except two", formula(4, c(-1, 2, 3)).propagate(0), literals(1));
            is("a clause of one literal", formula(4, c(-3)).propagate(0), literals(1, -3));
            is("the literal itself", formula(4, c(1)).propagate(0), literals(1));
        });
        sentence("Terms", "This is repeated until nothing can be added; then T is the result.", () -> {
            is("no clause", formula(10).propagate(19), literals(-10));
            CnfPreprocessor x = formula(10);
            for (int i = 9; i >= 1; i--) {
                add(x, -i, i + 1);
            }
            is("the first of a chain", x.propagate(0), literals(1, 2, 3, 4, 5, 6, 7, 8, 9, 10));
            is("the complement of the last of a chain", x.propagate(19),
                    literals(-1, -2, -3, -4, -5, -6, -7, -8, -9, -10));
            is("the last of a chain", x.propagate(18), literals(10));
            add(x, -10, -9);
            is("a chain that fails in the end", x.propagate(0), NONE);
        });
    }

    private static void propagationInAnyOrder() {
        sentence("Terms", "(Neither the result nor whether it fails depends on the order.)", () -> {
            int[][] clauses = {c(-1, 2), c(-2, -3, 4), c(3, -1), c(-4, 5)};
            for (int first = 0; first < 24; first++) {
                CnfPreprocessor x = formula(6);
                CnfPreprocessor fails = formula(6, c(-5, -2));
                List<int[]> left = new ArrayList<>(List.of(clauses));
                for (int k = 4, choice = first; k >= 1; choice /= k, k--) {
                    int[] next = left.remove(choice % k);
                    add(x, next);
                    add(fails, next);
                }
                is("propagate(0), order " + first, x.propagate(0), literals(1, 2, 3, 4, 5));
                is("propagate(0) that fails, order " + first, fails.propagate(0), NONE);
            }
        });
    }

    private static void implied() {
        sentence("Promise 31", "Tells whether the propagation of the complements of all literals of a clause of the list"
                + " over all other clauses fails.", () -> {
            is("one clause alone", formula(1, c(1)).implied(0), false);
            is("an equal clause", formula(1, c(1), c(1)).implied(0), true);
            is("a subset", formula(3, c(1, 2, 3), c(3, 2)).implied(0), true);
            is("a set around it", formula(3, c(1, 2), c(1, 2, 3)).implied(0), false);
            is("a contradiction of others", formula(3, c(1, 2), c(3), c(-3)).implied(0), true);
            is("the empty clause", formula(3, c()).implied(0), false);
            CnfPreprocessor wide = formula(10, c(1, 2, 3, 4, 5, 6, 7, 8, 9, -10), c(-10, 1));
            is("all variables", wide.implied(0), true);
            is("a part of it", wide.implied(1), false);
            leaves("implied", wide, () -> wide.implied(0));
        });
        refusesClause("Promise 31", (x, i) -> x.implied(i));
    }

    private static void propagate() {
        sentence("Promise 32", "Returns the result T, as an int in which bit k stands for literal k; NONE if the"
                + " propagation fails.", () -> {
            CnfPreprocessor x = formula(10, c(-1, -10), c(10, 9), c(-8, 1));
            is("propagate(0)", x.propagate(0), 1 << 0 | 1 << 19 | 1 << 16);
            is("propagate(18)", x.propagate(18), 1 << 18 | 1 << 1 | 1 << 15);
            is("propagate(2)", x.propagate(2), 1 << 2);
            leaves("propagate(0)", x, () -> x.propagate(0));
            CnfPreprocessor fails = formula(1, c(-1));
            leaves("propagate(0)", fails, () -> is("propagate(0) that fails", fails.propagate(0), NONE));
            is("propagate(1)", fails.propagate(1), 2);
        });
        sentence("Promise 32", "Throws IndexOutOfBoundsException if there is no such literal", () -> {
            for (int variables = 1; variables <= 10; variables++) {
                CnfPreprocessor x = formula(variables);
                int last = 2 * variables - 1;
                is("propagate of the last literal", x.propagate(last), 1 << last);
                refusesBeyond("propagate with " + variables + " variables", x, INDEX, last + 1, x::propagate);
            }
        });
        sentence("Promise 32", "Throws IllegalStateException if its variable is not active", () -> {
            CnfPreprocessor x = retired();
            for (int l = 2; l <= 7; l++) {
                int literal = l;
                refuses("propagate(" + l + ")", x, STATE, () -> x.propagate(literal));
            }
            is("propagate(1)", x.propagate(1), literals(-1, 5));
            is("propagate(9)", x.propagate(9), literals(-5, 1));
        });
        sentence("Terms", "NONE is returned only if no exception applies.", () -> {
            CnfPreprocessor x = formula(2, c(1), c(-1));
            x.apply(0);
            refuses("propagate(0) of a contradictory formula", x, STATE, () -> x.propagate(0));
            refuses("propagate(4) of a contradictory formula", x, INDEX, () -> x.propagate(4));
            is("propagate(2) of a contradictory formula", x.propagate(2), NONE);
        });
    }

    // ---- promises 33 and 34

    private static void reachable() {
        sentence("Terms", "if the list contains the clause that consists of exactly the two literals complement of a,"
                + " and b", () -> {
            CnfPreprocessor x = formula(6, c(-1, 2), c(3), c(-4, 5, 6));
            is("reachable(0, 2)", x.reachable(0, 2), true);
            is("reachable(3, 1), the other way of the same clause", x.reachable(3, 1), true);
            is("reachable(2, 0)", x.reachable(2, 0), false);
            is("reachable(0, 3)", x.reachable(0, 3), false);
            is("reachable(5, 4): one literal", x.reachable(5, 4), false);
            is("reachable(0, 4): one literal", x.reachable(0, 4), false);
            is("reachable(6, 8): three literals", x.reachable(6, 8), false);
            is("reachable(6, 10): three literals", x.reachable(6, 10), false);
        });
        sentence("Terms", "A literal is reachable from itself, and from each literal from which a chain of implications"
                + " leads to it.", () -> {
            for (int literal = 0; literal < 20; literal++) {
                is("a literal from itself", formula(10).reachable(literal, literal), true);
            }
            CnfPreprocessor x = formula(10);
            for (int i = 9; i >= 1; i--) {
                add(x, -i, i + 1);
            }
            is("reachable(0, 18) through a chain", x.reachable(0, 18), true);
            is("reachable(19, 1) through a chain", x.reachable(19, 1), true);
            is("reachable(18, 0)", x.reachable(18, 0), false);
            is("reachable(0, 19)", x.reachable(0, 19), false);
            CnfPreprocessor first = formula(10, c(-5, 1), c(-1, 3), c(-7, -10), c(10, 8));
            is("reachable(8, 4) through literal 0", first.reachable(8, 4), true);
            is("reachable(12, 14) through literal 19", first.reachable(12, 14), true);
            is("reachable(8, 14)", first.reachable(8, 14), false);
            CnfPreprocessor y = retired();
            is("reachable(2, 2) of a fixed variable", y.reachable(2, 2), true);
            is("reachable(2, 3) of a fixed variable", y.reachable(2, 3), false);
            is("reachable(0, 0) of a contradictory formula", formula(1, c()).reachable(0, 0), true);
            is("reachable(0, 1) of a contradictory formula", formula(1, c()).reachable(0, 1), false);
        });
        sentence("Promise 33", "Returns true if to is reachable from from.", () -> {
            CnfPreprocessor x = formula(10, c(1, 10));
            is("reachable(1, 18)", x.reachable(1, 18), true);
            is("reachable(18, 1)", x.reachable(18, 1), false);
            leaves("reachable", x, () -> x.reachable(1, 18));
        });
        sentence("Promise 33", "Throws IndexOutOfBoundsException if one of them does not exist", () -> {
            for (int variables = 1; variables <= 10; variables++) {
                CnfPreprocessor x = formula(variables);
                int end = 2 * variables;
                is("reachable of the last literal", x.reachable(end - 1, end - 1), true);
                refusesBeyond("reachable from with " + variables + " variables", x, INDEX, end, l -> x.reachable(l, 0));
                refusesBeyond("reachable to with " + variables + " variables", x, INDEX, end, l -> x.reachable(0, l));
                refusesBeyond("reachable with " + variables + " variables", x, INDEX, end, l -> x.reachable(l, l));
            }
        });
    }

    private static void representative() {
        sentence("Terms", "Two literals are equivalent if each one is reachable from the other one.", () -> {
            CnfPreprocessor oneWay = formula(2, c(-1, 2));
            is("representative(2), one way", oneWay.representative(2), 2);
            CnfPreprocessor both = formula(2, c(-1, 2), c(1, -2));
            is("representative(2), both ways", both.representative(2), 0);
            is("representative(3), both ways", both.representative(3), 1);
        });
        sentence("Terms", "The representative of a literal is the lowest literal that is equivalent to it.", () -> {
            CnfPreprocessor none = formula(10);
            for (int literal = 0; literal < 20; literal++) {
                is("representative(" + literal + ") without clauses", none.representative(literal), literal);
            }
            CnfPreprocessor opposite = formula(10, c(1, 10), c(-1, -10));
            is("representative(18)", opposite.representative(18), 1);
            is("representative(19)", opposite.representative(19), 0);
            is("representative(0)", opposite.representative(0), 0);
            CnfPreprocessor all = chain();
            add(all, -10, 1);
            is("representative(18) of a circle", all.representative(18), 0);
            is("representative(19) of a circle", all.representative(19), 1);
            CnfPreprocessor clash = formula(3, c(2, 3), c(2, -3), c(-2, 3), c(-2, -3));
            is("representative(5) if complements are equivalent", clash.representative(5), 2);
            is("representative(3) if complements are equivalent", clash.representative(3), 2);
        });
        sentence("Promise 34", "Returns the representative of a literal.", () -> {
            CnfPreprocessor x = retired();
            is("representative(6) of a substituted variable", x.representative(6), 6);
            is("representative(2) of a fixed variable", x.representative(2), 2);
            leaves("representative", x, () -> x.representative(6));
        });
        sentence("Promise 34", "Throws IndexOutOfBoundsException if there is no such literal", () -> {
            for (int variables = 1; variables <= 10; variables++) {
                CnfPreprocessor x = formula(variables);
                int end = 2 * variables;
                is("representative of the last literal", x.representative(end - 1), end - 1);
                refusesBeyond("representative with " + variables + " variables", x, INDEX, end, x::representative);
            }
        });
    }
}
