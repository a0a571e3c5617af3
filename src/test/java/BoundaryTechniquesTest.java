/** The boundary cases that the document names for the techniques: its Terms, and promises 18 to 24. */
public final class BoundaryTechniquesTest extends Checks {

    public static void main(String[] args) {
        canBeEliminated();
        toEliminate();
        allTechniques();
        units();
        pureLiterals();
        subsumption();
        strengthening();
        elimination();
        blockedClauses();
        coveredClauses();
        failedLiterals();
        equivalences();
        vivification();
        beyondTheFullStack();
        apply();
        run();
        runEnds();
        eliminate();
        setGrowth();
        total();
        undo();
        canEliminate();
        finish();
    }

    // ---- Terms: elimination of a variable

    /** Variable 0 has as many resolvents as the product of both numbers. */
    private static CnfPreprocessor product(int positives, int negatives, int growth) {
        CnfPreprocessor x = formula(10);
        x.setGrowth(growth);
        for (int i = 0; i < positives; i++) {
            add(x, 1, 2 + i);
        }
        for (int i = 0; i < negatives; i++) {
            add(x, -1, 10 - i);
        }
        return x;
    }

    private static void canBeEliminated() {
        sentence("Terms", "Variable v can be eliminated if it is active and occurs in the list", () -> {
            CnfPreprocessor x = formula(5, c(1), c(2, -3), c(-2, 3), c(2, 4));
            is("canEliminate(4), which does not occur", x.canEliminate(4), false);
            is("canEliminate(3), which occurs once", x.canEliminate(3), true);
            x.apply(0);
            x.apply(8);
            is("canEliminate(0), which is fixed", x.canEliminate(0), false);
            is("canEliminate(2), which is substituted", x.canEliminate(2), false);
            x.eliminate(3);
            is("canEliminate(3), which is eliminated", x.canEliminate(3), false);
            is("canEliminate(1), which does not occur any more", x.canEliminate(1), false);
            is("canEliminate(0) without clauses", formula(1).canEliminate(0), false);
            is("canEliminate(0) of a contradictory formula", formula(1, c(1), c()).canEliminate(0), false);
            is("canEliminate(0) with one negative literal", formula(1, c(-1)).canEliminate(0), true);
        });
        sentence("Terms", "if the number of its resolvents is at most the number of clauses that contain v plus the"
                + " growth (0 to 8, initially 0)", () -> {
            is("4 resolvents for 4 clauses", product(2, 2, 0).canEliminate(0), true);
            is("6 resolvents for 5 clauses", product(2, 3, 0).canEliminate(0), false);
            is("6 resolvents for 5 clauses, growth 1", product(2, 3, 1).canEliminate(0), true);
            is("9 resolvents for 6 clauses, growth 2", product(3, 3, 2).canEliminate(0), false);
            is("9 resolvents for 6 clauses, growth 3", product(3, 3, 3).canEliminate(0), true);
            is("16 resolvents for 8 clauses, growth 7", product(4, 4, 7).canEliminate(0), false);
            is("16 resolvents for 8 clauses, growth 8", product(4, 4, 8).canEliminate(0), true);
            is("20 resolvents for 9 clauses, growth 8", product(4, 5, 8).canEliminate(0), false);
            CnfPreprocessor fresh = new CnfPreprocessor();
            for (int[] clause : new int[][] {c(1, 2), c(1, 3), c(-1, 4), c(-1, 5), c(-1, 6)}) {
                add(fresh, clause);
            }
            is("6 resolvents for 5 clauses of a new object", fresh.canEliminate(0), false);
        });
        sentence("Terms", "if the number of clauses of the list that do not contain v plus the number of resolvents"
                + " (an empty one counts, too) is at most 48", () -> {
            int[][] six = {c(3, 4), c(3, 5), c(-3, 8), c(-3, 9), c(-3, 10)};
            is("42 other clauses and 6 resolvents", longList(10, six).canEliminate(2), true);
            is("43 other clauses and 6 resolvents", longList(11, six).canEliminate(2), false);
            CnfPreprocessor fits = longList(10, six);
            fits.eliminate(2);
            is("clauseCount() after the elimination that fits", fits.clauseCount(), 48);
            int[][] twelve = {c(3), c(3, 4), c(3, 5), c(3, 6), c(-3), c(-3, 8), c(-3, 9)};
            is("resolventCount(2) with an empty one", longList(4, twelve).resolventCount(2), 12);
            is("36 other clauses and 12 resolvents, an empty one among them", longList(4, twelve).canEliminate(2), true);
            is("37 other clauses and 12 resolvents, an empty one among them", longList(5, twelve).canEliminate(2), false);
        });
        sentence("Terms", "and if the stack has at most 120 rows afterwards", () -> {
            CnfPreprocessor x = almostFullStack();
            is("rowCount()", x.rowCount(), 119);
            is("the list", list(x), "-1 -2 10 0;1 3 -7 10 0;");
            is("canEliminate(0), one row more", x.canEliminate(0), true);
            is("canEliminate(2), one row more", x.canEliminate(2), true);
            is("canEliminate(1), no row more", x.canEliminate(1), true);
            is("canEliminate(9), two rows more", x.canEliminate(9), false);
            refuses("eliminate(9), two rows more", x, STATE, () -> x.eliminate(9));
            is("eliminate(2), one row more", x.eliminate(2), 0);
            is("rowCount() afterwards", x.rowCount(), 120);
            is("canEliminate(9), one row beyond 120", x.canEliminate(9), false);
            is("canEliminate(1), no row beyond 120", x.canEliminate(1), true);
            CnfPreprocessor y = fullStackWithUnit();
            is("rowCount() of a full stack", y.rowCount(), 120);
            is("canEliminate(7) without positive literals, 120 rows", y.canEliminate(7), true);
            y.apply(7);
            is("rowCount() beyond 120", y.rowCount(), 121);
            is("occurrences(14)", y.occurrences(14), 0);
            is("occurrences(15)", y.occurrences(15), 2);
            is("canEliminate(7) without positive literals, 121 rows", y.canEliminate(7), false);
        });
    }

    private static void toEliminate() {
        sentence("Terms", "for each clause that contains the positive literal of v, in order, the row with this clause"
                + " and with this literal as its witness is pushed", () -> {
            CnfPreprocessor x = formula(4, c(1, 3), c(-1, 2), c(1, -4), c(2, 3));
            x.eliminate(0);
            is("the stack", rows(x), "1 3 : 1;1 -4 : 1;");
            CnfPreprocessor negativeOnly = formula(4, c(-1, 3), c(-1, 2));
            negativeOnly.eliminate(0);
            is("the stack without a positive literal", rows(negativeOnly), "");
        });
        sentence("Terms", "all clauses that contain v are removed; v becomes eliminated; then the resolvents are"
                + " appended to the list, in order", () -> {
            CnfPreprocessor x = formula(4, c(1, 3), c(-1, 2), c(2, 3, 4), c(1, -4), c(-1, -2), c(4));
            is("eliminate(0)", x.eliminate(0), 4);
            is("the list", list(x), "2 3 4 0;4 0;2 3 0;-2 3 0;2 -4 0;-2 -4 0;");
            is("status(0)", x.status(0), 2);
            CnfPreprocessor positiveOnly = formula(4, c(1, 3), c(2), c(1));
            is("eliminate(0) without a negative literal", positiveOnly.eliminate(0), 0);
            is("the list without a negative literal", list(positiveOnly), "2 0;");
        });
        sentence("Terms", "If they contain no complementary literals, and this clause is not among the resolvents yet,"
                + " it is the next resolvent.", () -> {
            CnfPreprocessor x = formula(4, c(1, 2), c(-1, -2), c(1, 3), c(-1, 3), c(1, 3, 4), c(-1, 3, 4));
            is("resolventCount(0)", x.resolventCount(0), 6);
            is("eliminate(0)", x.eliminate(0), 6);
            is("the list", list(x), "2 3 0;2 3 4 0;-2 3 0;3 0;3 4 0;-2 3 4 0;");
            CnfPreprocessor none = formula(2, c(1, 2), c(-1, -2));
            is("eliminate(0) if all have complementary literals", none.eliminate(0), 0);
            is("the list if all have complementary literals", list(none), "");
        });
    }

    // ---- Terms: techniques

    /** For each technique a formula of 3 variables with which its result is not 0. */
    private static CnfPreprocessor busy(int technique) {
        switch (technique) {
            case 0: return formula(3, c(1), c(-1, 2));
            case 2: return formula(3, c(1), c(1, 2));
            case 3: return formula(3, c(1), c(-1, 2));
            case 4: return formula(3, c(1, 2), c(-1, 2));
            case 7: case 9: return formula(3, c(1, 2), c(1, -2));
            case 8: return formula(3, c(1, -2), c(-1, 2));
            default: return formula(3, c(1, 2));
        }
    }

    private static final int[] BUSY_RESULTS = {2, 1, 1, 1, 1, 1, 1, 1, 1, 2};

    private static void allTechniques() {
        sentence("Terms", "each technique has a total, to which its result is added", () -> {
            for (int technique = 0; technique < 10; technique++) {
                CnfPreprocessor x = busy(technique);
                is("apply(" + technique + ")", x.apply(technique), BUSY_RESULTS[technique]);
                for (int other = 0; other < 10; other++) {
                    int due = other == technique ? BUSY_RESULTS[technique] : 0;
                    is("total(" + other + ") after apply(" + technique + ")", x.total(other), due);
                }
            }
        });
        sentence("Terms", "If the formula is contradictory, a technique does nothing, and its result is 0.", () -> {
            CnfPreprocessor x = formula(3, c(1, 2), c());
            long before = x.digest();
            for (int technique = 0; technique < 10; technique++) {
                is("apply(" + technique + ")", x.apply(technique), 0);
                is("digest(): there is one more saved state", x.digest(), before + 1);
                is("undo()", x.undo(), 3);
            }
        });
        sentence("Terms", "If the formula becomes contradictory by a step, this step counts, too, if nothing else is"
                + " said.", () -> {
            int[][] clash = {c(1), c(-1)};
            int[][] four = {c(1, 2), c(1, -2), c(-1, 2), c(-1, -2)};
            is("units", formula(2, clash).apply(0), 1);
            is("strengthening", formula(2, clash).apply(3), 1);
            is("elimination", formula(2, clash).apply(4), 1);
            is("failed literals", formula(2, four).apply(7), 1);
            is("equivalences", formula(2, four).apply(8), 0);
            is("vivification", formula(2, c(1, 2), c(-1), c(-2)).apply(9), 2);
        });
    }

    private static void units() {
        sentence("Terms", "as long as the list contains a clause with exactly one literal, the literal of the first such"
                + " clause is fixed", () -> {
            CnfPreprocessor none = formula(3, c(1, 2), c(-1, 3));
            is("apply(0) without such a clause", none.apply(0), 0);
            is("apply(0) without clauses", formula(3).apply(0), 0);
            CnfPreprocessor first = formula(3, c(-3, 2), c(3), c(1));
            is("apply(0)", first.apply(0), 3);
            is("the stack: a new unit stands before the next one", rows(first), "3 : 3;2 : 2;1 : 1;");
            CnfPreprocessor equal = formula(3, c(-1), c(-1), c(-1));
            is("apply(0) of equal clauses", equal.apply(0), 1);
            CnfPreprocessor chain = formula(10);
            for (int i = 1; i < 10; i++) {
                add(chain, -i, i + 1);
            }
            add(chain, 1);
            is("apply(0) of a chain through all variables", chain.apply(0), 10);
            is("rowCount()", chain.rowCount(), 10);
            is("solve()", chain.solve(), 1023);
        });
        sentence("Terms", "the variable of l becomes fixed, and the row with the clause that consists of l alone, and"
                + " with the witness l, is pushed", () -> {
            CnfPreprocessor x = formula(10, c(-10), c(1));
            x.apply(0);
            is("status(9)", x.status(9), 1);
            is("status(0)", x.status(0), 1);
            is("the stack", rows(x), "-10 : -10;1 : 1;");
        });
        sentence("Terms", "all clauses that contain l are removed from the list; the complement of l is removed from"
                + " all other clauses", () -> {
            CnfPreprocessor x = formula(5, c(1, 2, 3), c(-1, 3, 4), c(1), c(1), c(-1, -2, 5), c(3, 5));
            x.apply(0);
            is("the list", list(x), "3 4 0;-2 5 0;3 5 0;");
        });
    }

    private static void pureLiterals() {
        sentence("Terms", "as long as there is an active variable of which exactly one of both literals occurs in the"
                + " list, this literal of the lowest such variable is fixed", () -> {
            CnfPreprocessor both = formula(4, c(1, 2), c(-1, -2));
            is("apply(1) if both occur, or none", both.apply(1), 0);
            is("status(3), which does not occur", both.status(3), 0);
            is("apply(1) without clauses", formula(3).apply(1), 0);
            CnfPreprocessor lowest = formula(4, c(1, -4), c(-1, -3), c(1, 4));
            is("apply(1)", lowest.apply(1), 2);
            is("the stack: the lowest one after each step", rows(lowest), "-3 : -3;1 : 1;");
            CnfPreprocessor all = formula(10);
            for (int i = 1; i <= 10; i++) {
                add(all, i % 2 == 0 ? i : -i);
            }
            is("apply(1) of all variables", all.apply(1), 10);
            is("solve()", all.solve(), 0b1010101010);
            CnfPreprocessor gone = formula(3, c(1), c(-1, 2), c(-2, 3));
            gone.apply(0);
            is("apply(1) of variables that are not active", gone.apply(1), 0);
        });
    }

    private static void subsumption() {
        sentence("Terms", "all clauses are removed of which another clause of the list is a proper subset", () -> {
            CnfPreprocessor x = formula(4, c(1, 2, 3), c(1, 2, 3, 4), c(1, 2), c(1, -2), c(-1, 2, 3), c(3, 4, 1));
            is("apply(2)", x.apply(2), 2);
            is("the list", list(x), "1 2 0;1 -2 0;-1 2 3 0;1 3 4 0;");
            is("apply(2) of one clause", formula(3, c(1)).apply(2), 0);
            is("apply(2) without clauses", formula(3).apply(2), 0);
        });
        sentence("Terms", "or to which a clause with a smaller number is equal", () -> {
            CnfPreprocessor x = formula(3, c(2, 3), c(1, 2), c(3), c(1, 2), c(-3, 1), c(1, 2));
            is("apply(2)", x.apply(2), 3);
            is("the list", list(x), "1 2 0;3 0;1 -3 0;");
            CnfPreprocessor equal = fullOriginals();
            is("apply(2) of 32 clauses, 4 of each", equal.apply(2), 24);
            is("the list of 8", list(equal), "1 0;2 0;3 0;4 0;5 0;6 0;7 0;8 0;");
        });
        sentence("Terms", "(all of them determined before any is removed)", () -> {
            CnfPreprocessor x = formula(4, c(1), c(1, 2), c(1, 2, 3), c(1, 2, 3, 4), c(1, 2, 3, 4));
            is("apply(2) of a chain of subsets", x.apply(2), 4);
            is("the list", list(x), "1 0;");
            CnfPreprocessor full = fullList();
            is("apply(2) of a full list", full.apply(2), 30);
            is("the list", list(full), "3 4 0;3 5 0;-3 8 0;-3 9 0;-3 10 0;4 5 6 7 -8 0;"
                    + "4 8 0;4 9 0;4 10 0;5 8 0;5 9 0;5 10 0;6 8 0;6 9 0;6 10 0;7 8 0;7 9 0;7 10 0;");
        });
    }

    private static void strengthening() {
        sentence("Terms", "such that another clause of the list contains the complement of l, and all its other literals"
                + " are in C, l is removed from C", () -> {
            CnfPreprocessor no = formula(4, c(1, 2), c(-1, 2, 3), c(-2, 4));
            is("apply(3): one literal too many", no.apply(3), 1);
            is("the list", list(no), "1 2 0;2 3 0;-2 4 0;");
            CnfPreprocessor two = formula(4, c(1, 2, 3), c(-1, -2, 3));
            is("apply(3): two complements", two.apply(3), 0);
            CnfPreprocessor equal = formula(3, c(1, 2), c(-1, 2));
            is("apply(3): only one of both remains as it is", equal.apply(3), 1);
            is("the list", list(equal), "2 0;-1 2 0;");
            is("apply(3) without clauses", formula(3).apply(3), 0);
        });
        sentence("Terms", "of several the first C is taken, and of this the lowest l", () -> {
            CnfPreprocessor lowest = formula(3, c(1, 2), c(-1, 2), c(1, -2));
            is("apply(3)", lowest.apply(3), 3);
            is("the list", list(lowest), "2 0;2 0;1 0;");
            CnfPreprocessor first = formula(3, c(1, 3), c(1, 2), c(-2, 1));
            is("apply(3), the first clause", first.apply(3), 1);
            is("the list", list(first), "1 3 0;1 0;1 -2 0;");
        });
    }

    private static void elimination() {
        sentence("Terms", "the one is eliminated for which the number of resolvents minus the number of clauses that"
                + " contain it is smallest, the lowest one of several", () -> {
            CnfPreprocessor x = formula(4, c(1, 2), c(-1, 3), c(2, 3), c(2, 3, 4));
            is("apply(4)", x.apply(4), 2);
            is("the stack", rows(x), "1 2 : 2;2 3 : 2;2 3 4 : 2;");
            is("status(0)", x.status(0), 2);
            is("status(2), which does not occur any more", x.status(2), 0);
            is("apply(4) without clauses", x.apply(4), 0);
        });
        sentence("Terms", "as long as a variable can be eliminated", () -> {
            CnfPreprocessor x = formula(7);
            x.generate(46920, 26, 3);
            x.setGrowth(7);
            is("apply(4) with growth 7", x.apply(4), 0);
            x.setGrowth(8);
            is("apply(4) with growth 8", x.apply(4), 1);
            CnfPreprocessor full = almostFullStack();
            is("apply(4) with 119 rows", full.apply(4), 2);
            is("rowCount() afterwards", full.rowCount(), 120);
            is("the new row", rows(full, 119), "1 3 -7 10 : 1;");
            is("status(1), which needs no row", full.status(1), 2);
            is("status(9)", full.status(9), 0);
            CnfPreprocessor beyond = fullStackWithUnit();
            beyond.apply(7);
            is("apply(4) with 121 rows", beyond.apply(4), 0);
        });
    }

    private static void blockedClauses() {
        sentence("Terms", "as long as the stack has fewer than 120 rows, and there is a clause that is blocked", () -> {
            CnfPreprocessor x = almostFullStack();
            is("blockingLiteral(1)", x.blockingLiteral(1), 4);
            is("apply(5) with 119 rows", x.apply(5), 1);
            is("rowCount() afterwards", x.rowCount(), 120);
            is("blockingLiteral(0)", x.blockingLiteral(0), 0);
            is("apply(5) with 120 rows", x.apply(5), 0);
            CnfPreprocessor beyond = fullStackWithUnit();
            beyond.apply(7);
            is("blockingLiteral(0) with 121 rows", beyond.blockingLiteral(0), 1);
            is("apply(5) with 121 rows", beyond.apply(5), 0);
            is("apply(5) without clauses", formula(3).apply(5), 0);
        });
        sentence("Terms", "the first such clause is removed, and the row with it and with the lowest literal that blocks"
                + " it is pushed", () -> {
            CnfPreprocessor x = almostFullStack();
            x.apply(5);
            is("the new row", rows(x, 119), "-1 -2 10 : -2;");
            is("the list", list(x), "1 3 -7 10 0;");
            CnfPreprocessor y = formula(4, c(1), c(-1), c(2, 3), c(-2, -3), c(-2, 4));
            is("apply(5)", y.apply(5), 3);
            is("the list", list(y), "1 0;-1 0;");
            is("the stack: the first one after each step", rows(y), "2 3 : 3;-2 -3 : -2;-2 4 : -2;");
        });
    }

    private static void coveredClauses() {
        sentence("Terms", "as long as there is a covered clause such that the stack has at most 120 rows when a row is"
                + " pushed for each of its pairs, the first such clause is removed", () -> {
            CnfPreprocessor x = almostFullStack();
            is("coverPairs(0)", x.coverPairs(0), 2);
            is("coverPairs(1)", x.coverPairs(1), 2);
            is("apply(6) of 2 pairs with 119 rows", x.apply(6), 0);
            CnfPreprocessor later = stacked(1308176960, 6);
            later.apply(3);
            is("rowCount()", later.rowCount(), 119);
            is("coverPairs(0)", later.coverPairs(0), 5);
            is("coverPairs(7)", later.coverPairs(7), 1);
            is("apply(6): only the last clause has so few pairs", later.apply(6), 1);
            is("rowCount() afterwards", later.rowCount(), 120);
            is("the new row", rows(later, 119), "-4 8 -9 : -4;");
            is("clauseCount() afterwards", later.clauseCount(), 7);
            CnfPreprocessor full = fullStackWithPureLiterals();
            is("total(6)", full.total(6), 32);
            is("rowCount() of a full stack", full.rowCount(), 120);
            is("coverPairs(7) beside a full stack", full.coverPairs(7), 1);
            is("apply(6) beside a full stack", full.apply(6), 0);
            is("apply(6) without clauses", formula(3).apply(6), 0);
        });
        sentence("Terms", "its pairs (E as the clause, l as the witness) are pushed as rows, in the order in which they"
                + " were added", () -> {
            CnfPreprocessor x = formula(10);
            for (int i = 1; i < 10; i++) {
                add(x, -i, i + 1);
            }
            add(x, 1);
            is("apply(6) of a chain", x.apply(6), 10);
            StringBuilder due = new StringBuilder();
            StringBuilder grown = new StringBuilder("-1 ");
            for (int i = 2; i <= 10; i++) {
                grown.append(i).append(' ');
                due.append(grown).append(": ").append(i).append(';');
            }
            // Without its first clause the rest of the chain is blocked from the left.
            for (int i = 2; i <= 9; i++) {
                due.append(-i).append(' ').append(i + 1).append(" : ").append(-i).append(';');
            }
            is("the stack of a chain", rows(x), due.append("1 : 1;").toString());
            CnfPreprocessor y = formula(5, c(1, 2), c(-1, -2, 3), c(2, 3, -4), c(4, 5), c(1, -5));
            is("apply(6)", y.apply(6), 5);
            is("the stack", rows(y), "1 2 : 1;-1 -2 3 : -1;-1 -2 3 -5 : -2;-1 -2 3 -4 -5 : 3;"
                    + "2 3 -4 : 2;4 5 : 4;1 -5 : 1;");
        });
    }

    private static void failedLiterals() {
        sentence("Terms", "the literals are examined in ascending order, each one once", () -> {
            // Literal 1 fails only after literal 2 has failed.
            CnfPreprocessor x = formula(4, c(-2, 3), c(-2, -3), c(-1, 2, 4), c(-1, 2, -4));
            is("apply(7)", x.apply(7), 1);
            is("the stack", rows(x), "-2 : -2;");
            is("apply(7) again", x.apply(7), 1);
            is("the stack after the second time", rows(x), "-2 : -2;-1 : -1;");
            CnfPreprocessor order = formula(4, c(-4, 3), c(-4, -3), c(1, 2), c(1, -2));
            is("apply(7), two literals", order.apply(7), 2);
            is("the stack: in ascending order", rows(order), "1 : 1;-4 : -4;");
            is("apply(7) without clauses", formula(3).apply(7), 0);
            CnfPreprocessor last = formula(10, c(10, 9), c(10, -9));
            is("apply(7), the last literal", last.apply(7), 1);
            is("the stack: the last literal", rows(last), "10 : 10;");
        });
        sentence("Terms", "if the variable of a literal is active at this moment", () -> {
            CnfPreprocessor x = formula(3, c(-1, 3), c(-1, -3), c(1, -2));
            is("propagate(2)", x.propagate(2), NONE);
            is("apply(7): variable 1 is fixed before it is examined", x.apply(7), 1);
            is("the stack", rows(x), "-1 : -1;-2 : -2;");
            CnfPreprocessor gone = formula(3, c(1), c(2), c(-2));
            gone.apply(1);
            is("the stack, variable 0 is fixed before", rows(gone), "1 : 1;");
            is("apply(7): each propagation fails, but variable 0 is not examined", gone.apply(7), 1);
            is("the stack after it", rows(gone), "1 : 1;-2 : -2;");
        });
        sentence("Terms", "its complement is fixed, and then technique 0 is applied (its result is not added to any"
                + " total)", () -> {
            CnfPreprocessor x = formula(4, c(1, 2), c(1, -2), c(-1, 3), c(-3, 4));
            is("apply(7)", x.apply(7), 1);
            is("the stack", rows(x), "1 : 1;3 : 3;4 : 4;");
            is("total(0)", x.total(0), 0);
            is("total(7)", x.total(7), 1);
            CnfPreprocessor unit = formula(2, c(1), c(-1, 2));
            is("apply(7): the complement of a unit fails", unit.apply(7), 1);
            is("the stack: the complement of a unit fails", rows(unit), "1 : 1;2 : 2;");
        });
    }

    private static void equivalences() {
        sentence("Terms", "if both literals of an active variable are equivalent, the formula becomes contradictory, and"
                + " the result is 0", () -> {
            CnfPreprocessor oneWay = formula(3, c(1, 2), c(1, -2));
            is("reachable(1, 0)", oneWay.reachable(1, 0), true);
            is("apply(8): one way is not enough", oneWay.apply(8), 0);
            is("contradictory()", oneWay.contradictory(), false);
            CnfPreprocessor ways = formula(10, c(-1, 2), c(-1, -2), c(3, 4), c(3, -4), c(-9, 10), c(-9, -10));
            is("reachable(0, 1)", ways.reachable(0, 1), true);
            is("reachable(5, 4)", ways.reachable(5, 4), true);
            is("reachable(16, 17)", ways.reachable(16, 17), true);
            is("apply(8): one way of several variables is not enough", ways.apply(8), 0);
            is("contradictory()", ways.contradictory(), false);
            int[][][] roundabout = {
                {c(-2, -1), c(2, 3), c(2, -3)}, {c(1, 2), c(-2, 3), c(-2, -3)},
                {c(-1, 2), c(1, 3), c(1, -3)}, {c(-2, 1), c(-1, 3), c(-1, -3)},
            };
            for (int[][] clauses : roundabout) {
                CnfPreprocessor another = formula(3, clauses);
                is("apply(8): the other way leads to another variable", another.apply(8), 0);
                is("contradictory()", another.contradictory(), false);
            }
            for (int i = 1; i < 10; i++) {
                CnfPreprocessor two = formula(10, c(i, i + 1), c(i, -i - 1), c(-i, i + 1), c(-i, -i - 1));
                is("apply(8)", two.apply(8), 0);
                is("contradictory(), variables " + i + " and " + (i + 1), two.contradictory(), true);
            }
            CnfPreprocessor x = formula(4, c(1, 2), c(1, -2), c(-1, 2), c(-1, -2), c(3, -4), c(-3, 4));
            is("apply(8)", x.apply(8), 0);
            is("the list", list(x), "0;");
            is("total(8)", x.total(8), 0);
            is("rowCount()", x.rowCount(), 0);
            is("status(3)", x.status(3), 0);
        });
        sentence("Terms", "each active variable v whose positive literal has another representative r than itself is"
                + " substituted, in ascending order", () -> {
            CnfPreprocessor x = formula(10, c(-10, 1));
            for (int i = 1; i < 10; i++) {
                add(x, -i, i + 1);
            }
            is("apply(8) of all variables", x.apply(8), 9);
            is("rowCount()", x.rowCount(), 18);
            is("the list", list(x), "");
            for (int v = 1; v < 10; v++) {
                is("status(" + v + ")", x.status(v), 3);
                is("value(" + v + ")", x.value(v), 0);
                is("the witness of its first row", x.row(2 * v - 2, 2), 2 * v);
                is("the witness of its second row", x.row(2 * v - 1, 2), 2 * v + 1);
            }
            is("status(0)", x.status(0), 0);
            is("solve()", x.solve(), 0);
            is("extend(1)", x.extend(1), 1023);
            is("apply(8) again", x.apply(8), 0);
            is("apply(8) without clauses", formula(3).apply(8), 0);
        });
        sentence("Terms", "the row with the clause of the positive literal of v and the complement of r, and with the"
                + " positive literal of v as its witness, is pushed", () -> {
            CnfPreprocessor x = formula(3, c(1, -2), c(-1, 2));
            x.apply(8);
            is("the stack", rows(x), "-1 2 : 2;1 -2 : -2;");
            CnfPreprocessor opposite = formula(3, c(1, 2), c(-1, -2));
            opposite.apply(8);
            is("the stack for a negative r", rows(opposite), "1 2 : 2;-1 -2 : -2;");
            is("value(1) for a negative r", opposite.value(1), 1);
        });
        sentence("Terms", "all literals in the list are replaced by the representatives that they had before, and"
                + " clauses that would contain complementary literals are removed", () -> {
            CnfPreprocessor x = formula(4, c(1, -2), c(-1, 2), c(1, 2), c(-1, 2, 3), c(2, 3, 4), c(-2, 3), c(1, 2, 3));
            is("apply(8)", x.apply(8), 1);
            is("the list", list(x), "1 0;1 3 4 0;-1 3 0;1 3 0;");
            CnfPreprocessor equal = formula(3, c(1, -2), c(-1, 2), c(1, 3), c(2, 3));
            equal.apply(8);
            is("the list with equal clauses", list(equal), "1 3 0;1 3 0;");
        });
    }

    private static void vivification() {
        sentence("Terms", "each clause of the list is replaced by the result of its vivification, one after the other in"
                + " order, each one once", () -> {
            // The first clause can be shortened only after the second one has become a unit.
            CnfPreprocessor x = formula(3, c(-1, 3), c(1, 2), c(1, -2));
            is("apply(9)", x.apply(9), 2);
            is("the list", list(x), "-1 3 0;1 0;1 0;");
            is("apply(9) again", x.apply(9), 1);
            is("the list after the second time", list(x), "3 0;1 0;1 0;");
            is("apply(9) without clauses", formula(3).apply(9), 0);
        });
        sentence("Terms", "the number of literals that were removed (not counting a clause whose first propagation"
                + " fails)", () -> {
            CnfPreprocessor fails = formula(4, c(1), c(2, 3, 4), c(-1));
            is("apply(9)", fails.apply(9), 0);
            is("the list", list(fails), "0;");
            // The first clause loses a literal, and by that the first propagation of the second one fails.
            CnfPreprocessor later = formula(4, c(1, 2), c(1, -2), c(-1, 3, 4), c(-1, 3, -4), c(-3, -1));
            is("apply(9), literals before the failure count", later.apply(9), 1);
            is("the list afterwards", list(later), "0;");
            is("total(9)", later.total(9), 1);
        });
    }

    private static void beyondTheFullStack() {
        sentence("Terms", "this literal of the lowest such variable is fixed. Result", () -> {
            CnfPreprocessor x = fullStackWithPureLiterals();
            is("apply(1) with 120 rows", x.apply(1), 3);
            is("the new rows", rows(x, 120), "-3 : -3;-1 : -1;6 : 6;");
        });
        sentence("Terms", "the literal of the first such clause is fixed. Result", () -> {
            CnfPreprocessor x = fullStackWithUnit();
            is("rowCount()", x.rowCount(), 120);
            is("apply(3)", x.apply(3), 6);
            is("apply(0) with 120 rows", x.apply(0), 1);
            is("the new row", rows(x, 120), "-4 : -4;");
        });
        sentence("Terms", "and the propagation of this literal over the list fails, its complement is fixed", () -> {
            CnfPreprocessor x = fullStackWithUnit();
            is("apply(7) with 120 rows", x.apply(7), 1);
            is("the new row", rows(x, 120), "-4 : -4;");
        });
        sentence("Terms", "v becomes substituted", () -> {
            CnfPreprocessor x = fullStackWithCircle();
            is("total(6)", x.total(6), 16);
            is("rowCount()", x.rowCount(), 120);
            is("coverPairs(0), the 14th equal clause", x.coverPairs(0), 9);
            is("apply(8) with 120 rows", x.apply(8), 9);
            is("rowCount() afterwards", x.rowCount(), 138);
            is("status(9)", x.status(9), 3);
            is("the list", list(x), "1 0;");
            is("apply(0) with 138 rows", x.apply(0), 1);
            is("the last rows", rows(x, 136), "-1 10 : 10;1 -10 : -10;1 : 1;");
            is("solve()", x.solve(), 1023);
            is("unsatisfied(1023)", x.unsatisfied(1023), 0);
        });
        sentence("Terms", "then the row with the clause of the negative literal of v and r, and with the negative literal"
                + " of v as its witness", () -> {
            CnfPreprocessor x = fullStackWithEquivalence();
            x.apply(3);
            is("rowCount()", x.rowCount(), 120);
            is("apply(8) with 120 rows", x.apply(8), 1);
            is("the new rows", rows(x, 120), "-2 6 : 6;2 -6 : -6;");
            is("solve() with 122 rows satisfies the original clauses", x.unsatisfied(x.solve()), 0);
            x.undo();
            is("rowCount() after undo()", x.rowCount(), 120);
        });
    }

    // ---- promises 18 and 19

    private static void apply() {
        sentence("Promise 18", "Applies a technique. Undoable.", () -> {
            for (int technique = 0; technique < 10; technique++) {
                CnfPreprocessor x = busy(technique);
                long before = x.digest();
                x.apply(technique);
                x.undo();
                is("digest() after undo() of apply(" + technique + ")", x.digest(), before);
                CnfPreprocessor idle = formula(3);
                idle.apply(technique);
                is("undo() of apply(" + technique + ") without effect", idle.undo(), 1);
            }
        });
        sentence("Promise 18", "technique: its number, 0 to 9", () -> {
            for (int technique = 0; technique < 10; technique++) {
                is("apply(" + technique + ")", busy(technique).apply(technique), BUSY_RESULTS[technique]);
            }
        });
        sentence("Promise 18", "Throws IllegalArgumentException if technique is out of range", () -> {
            CnfPreprocessor x = formula(3, c(1));
            refusesBeyond("apply", x, ARGUMENT, 10, x::apply);
            CnfPreprocessor empty = formula(3, c());
            refusesBeyond("apply to a contradictory formula", empty, ARGUMENT, 10, empty::apply);
        });
    }

    /** In each round of failed literals just one literal fails, as long as one is left. */
    private static CnfPreprocessor slow(int rounds) {
        CnfPreprocessor x = formula(10);
        for (int i = 1; i < rounds; i++) {
            add(x, -i, i + 1, 10);
            add(x, -i, i + 1, -10);
        }
        add(x, -rounds, 10);
        add(x, -rounds, -10);
        write(x, "f");
        return x;
    }

    private static void run() {
        sentence("Promise 19", "in each round the techniques of the text are applied one after the other", () -> {
            CnfPreprocessor x = formula(4, c(1, 2), c(-1, 2), c(-2, 3), c(-3, 4, 1));
            write(x, "tu");
            is("run(1) of tu", x.run(1), 1);
            is("total(0)", x.total(0), 2);
            x.undo();
            write(x, "ut");
            is("run(1) of ut", x.run(1), 1);
            is("total(0)", x.total(0), 0);
            for (int technique = 0; technique < 10; technique++) {
                CnfPreprocessor one = busy(technique);
                write(one, "upstebcfqv".substring(technique, technique + 1));
                is("run(1) of one letter", one.run(1), 1);
                is("total(" + technique + ")", one.total(technique), BUSY_RESULTS[technique]);
            }
        });
        sentence("Promise 19", "The text stays. Undoable, unless there is a syntax error (one saved state for all"
                + " rounds).", () -> {
            CnfPreprocessor x = formula(3, c(1, 2), c(-1, 2), c(-2, 3));
            write(x, "tu");
            long before = x.digest();
            is("run(9)", x.run(9), 2);
            is("undo()", x.undo(), 4);
            is("digest() after undo()", x.digest(), before);
            is("clearText()", x.clearText(), 2);
            CnfPreprocessor idle = formula(3);
            write(idle, "u");
            idle.run(1);
            is("undo() of a run without effect", idle.undo(), 1);
            write(idle, "x");
            idle.run(1);
            is("undo() after a syntax error", idle.undo(), 0);
            refuses("one more undo()", idle, STATE, idle::undo);
        });
        sentence("Promise 19", "rounds: the greatest number of rounds, 1 to 9", () -> {
            CnfPreprocessor x = slow(9);
            is("run(1)", x.run(1), 1);
            is("total(7) after run(1)", x.total(7), 1);
            x.undo();
            is("run(8)", x.run(8), 8);
            is("total(7) after run(8)", x.total(7), 8);
            x.undo();
            is("run(9)", x.run(9), 9);
            is("total(7) after run(9)", x.total(7), 9);
            is("clauseCount()", x.clauseCount(), 0);
        });
        sentence("Promise 19", "-1 minus the syntax error position if there is a syntax error (then nothing changes)",
                () -> {
            CnfPreprocessor x = formula(3, c(1), c(-1, 2));
            for (String text : new String[] {"", "ux", "uuu0", "u".repeat(21)}) {
                write(x, text);
                int due = text.isEmpty() ? -1 : -text.length();
                leaves("run(9)", x, () -> is("run(9) of " + text, x.run(9), due));
            }
            is("clauseCount()", x.clauseCount(), 2);
            CnfPreprocessor empty = formula(3, c());
            write(empty, "u x");
            is("run(1) of an error for a contradictory formula", empty.run(1), -3);
        });
        sentence("Promise 19", "Throws IllegalArgumentException if rounds is out of range", () -> {
            CnfPreprocessor x = slow(3);
            refuses("run(0)", x, ARGUMENT, () -> x.run(0));
            refusesBeyond("run", x, ARGUMENT, 10, x::run);
            write(x, "x");
            refuses("run(0) with a syntax error", x, ARGUMENT, () -> x.run(0));
            refuses("run(10) with a syntax error", x, ARGUMENT, () -> x.run(10));
        });
    }

    private static void runEnds() {
        sentence("Promise 19", "It ends after a round in which all results are 0", () -> {
            CnfPreprocessor idle = formula(3, c(1, 2), c(-1, -2));
            write(idle, "u");
            is("run(9) without effect", idle.run(9), 1);
            is("run(9) of 8 rounds and one without effect", slow(8).run(9), 9);
            is("run(9) of 7 rounds and one without effect", slow(7).run(9), 8);
            CnfPreprocessor one = slow(3);
            write(one, "uufuu");
            is("run(9): one result is not 0", one.run(9), 4);
        });
        sentence("Promise 19", "after a round after which the formula is contradictory", () -> {
            CnfPreprocessor second = formula(5, c(-3, 4, 2), c(-3, 4, -2), c(3, 4, 1), c(3, 4, -1), c(-4, 5), c(-4, -5));
            write(second, "f");
            is("run(9), contradictory in the second round", second.run(9), 2);
            is("contradictory()", second.contradictory(), true);
            is("total(7)", second.total(7), 2);
            CnfPreprocessor zero = formula(2, c(1, 2), c(1, -2), c(-1, 2), c(-1, -2));
            write(zero, "q");
            is("run(9) of q", zero.run(9), 1);
            CnfPreprocessor rest = formula(3, c(1), c(-1), c(2, 3));
            write(rest, "upbe");
            is("run(9): the rest of the round does nothing", rest.run(9), 1);
            is("rowCount()", rest.rowCount(), 1);
            CnfPreprocessor before = formula(2, c());
            write(before, "u");
            is("run(9) of a contradictory formula", before.run(9), 1);
        });
        sentence("Promise 19", "or after the given number of rounds", () -> {
            CnfPreprocessor x = slow(5);
            is("run(4)", x.run(4), 4);
            is("clauseCount()", x.clauseCount(), 2);
            is("run(1)", x.run(1), 1);
            is("clauseCount() after one round more", x.clauseCount(), 0);
        });
        sentence("Promise 19", "Returns the number of rounds, including one in which all results are 0", () -> {
            is("run(9) of one round and one without effect", slow(1).run(9), 2);
            is("run(1) of one round", slow(1).run(1), 1);
            is("run(2) of one round and one without effect", slow(1).run(2), 2);
        });
    }

    // ---- promises 20 to 22

    private static void eliminate() {
        sentence("Promise 20", "Eliminates a variable, and adds 1 to the total of technique 4. Undoable.", () -> {
            CnfPreprocessor x = formula(4, c(1, 2), c(-1, 3), c(2, 4));
            long before = x.digest();
            x.eliminate(0);
            is("total(4)", x.total(4), 1);
            x.eliminate(3);
            is("total(4) after the second one", x.total(4), 2);
            is("undo()", x.undo(), 5);
            is("total(4) after undo()", x.total(4), 1);
            x.undo();
            is("digest() after undo()", x.digest(), before);
            CnfPreprocessor clash = formula(2, c(1), c(-1));
            clash.eliminate(0);
            is("total(4) after a contradiction", clash.total(4), 1);
            is("contradictory()", clash.contradictory(), true);
        });
        sentence("Promise 20", "Returns the number of its resolvents.", () -> {
            is("eliminate(0) without resolvents", formula(1, c(1)).eliminate(0), 0);
            is("eliminate(0) with an empty resolvent", formula(1, c(1), c(-1)).eliminate(0), 1);
            is("eliminate(0) with an empty resolvent and others",
                    formula(3, c(1), c(1, 2), c(-1), c(-1, 3)).eliminate(0), 4);
            is("eliminate(0) with 16 resolvents", product(4, 4, 8).eliminate(0), 16);
        });
        sentence("Promise 20", "Throws IndexOutOfBoundsException if there is no such variable", () -> {
            for (int variables = 1; variables <= 10; variables++) {
                CnfPreprocessor x = formula(variables, c(variables));
                refusesBeyond("eliminate with " + variables + " variables", x, INDEX, variables, x::eliminate);
                is("eliminate of the last variable", x.eliminate(variables - 1), 0);
            }
        });
        sentence("Promise 20", "Throws IllegalStateException if the variable cannot be eliminated", () -> {
            CnfPreprocessor absent = formula(3, c(1));
            refuses("eliminate(1), which does not occur", absent, STATE, () -> absent.eliminate(1));
            absent.apply(0);
            refuses("eliminate(0), which is fixed", absent, STATE, () -> absent.eliminate(0));
            CnfPreprocessor growth = product(2, 3, 0);
            refuses("eliminate(0) of too many resolvents", growth, STATE, () -> growth.eliminate(0));
            growth.setGrowth(1);
            is("eliminate(0) with growth 1", growth.eliminate(0), 6);
            CnfPreprocessor list = fullList();
            refuses("eliminate(2) beside a full list", list, STATE, () -> list.eliminate(2));
            CnfPreprocessor stack = almostFullStack();
            refuses("eliminate(9) beside a full stack", stack, STATE, () -> stack.eliminate(9));
            CnfPreprocessor empty = formula(3, c(1), c());
            refuses("eliminate(0) of a contradictory formula", empty, STATE, () -> empty.eliminate(0));
        });
    }

    private static void setGrowth() {
        sentence("Promise 21", "Sets the growth. Undoable.", () -> {
            CnfPreprocessor x = formula(3);
            x.setGrowth(5);
            is("undo()", x.undo(), 1);
            is("setGrowth(0) after undo()", x.setGrowth(0), 0);
            is("undo() of a growth that is the same", x.undo(), 1);
        });
        sentence("Promise 21", "growth: 0 to 8", () -> {
            CnfPreprocessor x = formula(3);
            is("setGrowth(8)", x.setGrowth(8), 0);
            is("setGrowth(0)", x.setGrowth(0), 8);
            is("setGrowth(1)", x.setGrowth(1), 0);
        });
        sentence("Promise 21", "Returns the growth before.", () -> {
            CnfPreprocessor x = new CnfPreprocessor();
            is("setGrowth(0) of a new object", x.setGrowth(0), 0);
            is("setGrowth(7)", x.setGrowth(7), 0);
            is("setGrowth(7) again", x.setGrowth(7), 7);
        });
        sentence("Promise 21", "Throws IllegalArgumentException if growth is out of range", () -> {
            CnfPreprocessor x = formula(3);
            x.setGrowth(8);
            refusesBeyond("setGrowth", x, ARGUMENT, 9, x::setGrowth);
            is("setGrowth(8) after refused calls", x.setGrowth(8), 8);
        });
    }

    private static void total() {
        sentence("Promise 22", "Returns the total of a technique.", () -> {
            CnfPreprocessor x = slow(4);
            x.apply(7);
            is("total(7) after apply(7)", x.total(7), 1);
            x.apply(7);
            is("total(7) after apply(7) twice", x.total(7), 2);
            x.run(9);
            is("total(7) after run", x.total(7), 4);
            x.predict(7, true);
            x.bestTechnique();
            is("total(7) after predictions", x.total(7), 4);
            x.undo();
            is("total(7) after undo()", x.total(7), 2);
            is("total(9), not applied", x.total(9), 0);
        });
        sentence("Promise 22", "Throws IllegalArgumentException if technique is out of range", () -> {
            CnfPreprocessor x = formula(3);
            is("total(0)", x.total(0), 0);
            is("total(9)", x.total(9), 0);
            refusesBeyond("total", x, ARGUMENT, 10, x::total);
        });
    }

    // ---- promises 23 and 24

    private static void undo() {
        sentence("Promise 23", "Restores the latest saved state and removes it from the saved ones.", () -> {
            CnfPreprocessor x = formula(10, c(1, -2), c(-1, 2), c(3), c(-3, 4, 5), c(-4, 6));
            long before = x.digest();
            write(x, "uqetpbcfsv");
            x.run(9);
            x.reset(1);
            x.undo();
            x.undo();
            x.clearText();
            // 6 states were saved, the run and the reset dropped two of them, and two were used up.
            is("digest() after undo()", x.digest(), before - 2);
            is("status(0)", x.status(0), 0);
            is("the list", list(x), "1 -2 0;-1 2 0;3 0;-3 4 5 0;-4 6 0;");
        });
        sentence("Promise 23", "Returns the number of states that are still saved.", () -> {
            CnfPreprocessor x = formula(3, c(1), c(2));
            is("undo(), two are left", x.undo(), 2);
            is("undo(), one is left", x.undo(), 1);
            is("undo(), none is left", x.undo(), 0);
            is("reset(8) of what there was at first", x.reset(8), 8);
        });
        sentence("Terms", "At most 6 states are saved; the oldest one is dropped first.", () -> {
            CnfPreprocessor x = formula(4);
            for (int i = 1; i <= 12; i++) {
                x.addClause(i, 0);
            }
            for (int left = 5; left >= 0; left--) {
                is("undo()", x.undo(), left);
                is("originalCount() after undo()", x.originalCount(), 6 + left);
                is("the last clause after undo()", x.original(5 + left, true), 6 + left);
            }
            refuses("undo() without a saved state", x, STATE, x::undo);
            is("addClause after all of them", x.addClause(15, 0), 7);
            is("undo() of it", x.undo(), 0);
            CnfPreprocessor six = formula(4, c(1), c(1), c(1), c(1), c(1));
            is("undo() after 6 calls", six.undo(), 5);
            CnfPreprocessor seven = formula(4, c(1), c(1), c(1), c(1), c(1), c(1));
            is("undo() after 7 calls", seven.undo(), 5);
        });
        sentence("Terms", "saves the state before the call, even if nothing changes", () -> {
            CnfPreprocessor x = formula(3);
            x.reset(3);
            x.setGrowth(0);
            x.readClauses();
            x.apply(0);
            write(x, "u");
            x.run(1);
            is("undo(): 6 states were saved", x.undo(), 5);
            CnfPreprocessor y = formula(3, c(1, 2));
            y.generate(1, 1, 1);
            y.undo();
            y.eliminate(0);
            is("undo(): addClause and eliminate have saved theirs", y.undo(), 2);
        });
        sentence("Terms", "A call that throws an exception changes nothing.", () -> {
            CnfPreprocessor x = formula(3, c(1, 2));
            refuses("reset(0)", x, ARGUMENT, () -> x.reset(0));
            refuses("addClause(1, 1)", x, ARGUMENT, () -> x.addClause(1, 1));
            refuses("generate(1, 32, 1)", x, STATE, () -> x.generate(1, 32, 1));
            refuses("apply(10)", x, ARGUMENT, () -> x.apply(10));
            refuses("run(0)", x, ARGUMENT, () -> x.run(0));
            refuses("eliminate(2)", x, STATE, () -> x.eliminate(2));
            refuses("setGrowth(9)", x, ARGUMENT, () -> x.setGrowth(9));
            is("undo(): no refused call has saved a state", x.undo(), 1);
        });
        sentence("Promise 23", "Throws IllegalStateException if no state is saved", () -> {
            CnfPreprocessor x = new CnfPreprocessor();
            refuses("undo() of a new object", x, STATE, x::undo);
            x.reset(8);
            is("undo()", x.undo(), 0);
            refuses("undo() again", x, STATE, x::undo);
        });
        sentence("What it is", "An object is used for at most 512 calls after it has been made", () -> {
            CnfPreprocessor x = new CnfPreprocessor();
            for (int i = 0; i < 510; i++) {
                x.reset(1 + i % 10);
            }
            is("undo(), the 511th call", x.undo(), 5);
            is("reset(1), the 512th call", x.reset(1), 9);
        });
    }

    private static void canEliminate() {
        sentence("Promise 24", "Tells whether a variable can be eliminated.", () -> {
            CnfPreprocessor x = product(2, 3, 0);
            leaves("canEliminate(0)", x, () -> is("canEliminate(0)", x.canEliminate(0), false));
            leaves("canEliminate(1)", x, () -> is("canEliminate(1)", x.canEliminate(1), true));
            is("canEliminate(9), the last variable", x.canEliminate(9), true);
        });
        sentence("Promise 24", "Throws IndexOutOfBoundsException if there is no such variable", () -> {
            for (int variables = 1; variables <= 10; variables++) {
                CnfPreprocessor x = formula(variables, c(variables));
                refusesBeyond("canEliminate with " + variables + " variables", x, INDEX, variables, x::canEliminate);
                is("canEliminate of the last variable", x.canEliminate(variables - 1), true);
            }
        });
    }
}
