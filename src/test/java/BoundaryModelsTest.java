import java.math.BigInteger;
import java.util.ArrayList;
import java.util.List;

/** The boundary cases that the document names for the stack, models and predictions: promises 35 to 43. */
public final class BoundaryModelsTest extends Checks {

    public static void main(String[] args) {
        extending();
        rows();
        extend();
        solve();
        unsatisfied();
        models();
        predict();
        bestTechnique();
        digest();
        finish();
    }

    // ---- Terms: the stack

    private static void extending() {
        sentence("Terms", "all variables that are not active become false", () -> {
            CnfPreprocessor x = formula(3, c(-1, 2), c(-1, 3));
            x.eliminate(0);
            is("rowCount()", x.rowCount(), 0);
            is("extend(7)", x.extend(7), 6);
            CnfPreprocessor fixed = formula(10, c(-1), c(-10));
            fixed.apply(0);
            is("extend(1023) with two variables that are fixed", fixed.extend(1023), 1022 - 512);
        });
        sentence("Terms", "for each row from the last one to the first one", () -> {
            // The second row makes variable 1 true, and only by that the first row makes variable 0 true.
            CnfPreprocessor x = formula(3, c(1, -2), c(2, 3));
            x.apply(5);
            is("the stack", rows(x), "1 -2 : 1;2 3 : 2;");
            is("extend(0)", x.extend(0), 3);
            is("extend(4)", x.extend(4), 4);
        });
        sentence("Terms", "if the assignment does not satisfy the clause of the row, the variable of the witness gets the"
                + " value that makes the witness true", () -> {
            CnfPreprocessor x = formula(2, c(-1, -2));
            x.apply(5);
            is("the stack with a negative witness", rows(x), "-1 -2 : -1;");
            is("extend(3): it becomes true", x.extend(3), 2);
            is("extend(2): it is true", x.extend(2), 2);
            is("extend(1): another literal is true", x.extend(1), 1);
            is("extend(0): both are true", x.extend(0), 0);
            CnfPreprocessor y = formula(10, c(9, 10));
            y.apply(5);
            is("the stack with a positive witness", rows(y), "9 10 : 9;");
            is("extend(0): it becomes true", y.extend(0), 256);
            is("extend(256): it is true", y.extend(256), 256);
            is("extend(512): another literal is true", y.extend(512), 512);
            is("extend(768): both are true", y.extend(768), 768);
        });
        sentence("Terms", "numbered from 0 in the order in which they are pushed", () -> {
            CnfPreprocessor x = formula(5, c(3), c(1, 2), c(4, 5), c(-4, -5));
            x.apply(0);
            x.apply(1);
            x.apply(8);
            is("the stack", rows(x), "3 : 3;1 : 1;4 5 : 5;-4 -5 : -5;");
            is("row(0, 2)", x.row(0, 2), 4);
            is("row(3, 2)", x.row(3, 2), 9);
        });
        sentence("Terms", "A row consists of a clause and of one of its literals, its witness.", () -> {
            CnfPreprocessor x = fullStackWithEquivalence();
            is("rowCount()", x.rowCount(), 120);
            boolean all = true;
            for (int i = 0; i < 120; i++) {
                int witness = x.row(i, 2);
                all &= (x.row(i, witness % 2) >> witness / 2 & 1) == 1;
            }
            is("all witnesses are literals of their clauses", all, true);
        });
        sentence("Terms", "A reconstruction stack extends each model of the simplified formula to a model of the original"
                + " one.", () -> {
            CnfPreprocessor x = fullStackWithPureLiterals();
            x.apply(1);
            is("rowCount()", x.rowCount(), 123);
            int wrongOnes = 0;
            int models = 0;
            for (int assignment = 0; assignment < 1024; assignment += 7) {
                int extended = x.extend(assignment);
                models += extended == NONE ? 0 : 1;
                wrongOnes += extended != NONE && x.unsatisfied(extended) != 0 ? 1 : 0;
            }
            is("models that are extended", models, 147);
            is("models that are extended in a wrong way", wrongOnes, 0);
        });
    }

    // ---- promises 35 and 36

    private static void rows() {
        sentence("Promise 35", "Returns the number of rows of the stack.", () -> {
            is("rowCount() of a new object", new CnfPreprocessor().rowCount(), 0);
            CnfPreprocessor x = formula(2, c(1));
            x.apply(0);
            is("rowCount() of one row", x.rowCount(), 1);
            x.undo();
            is("rowCount() after undo()", x.rowCount(), 0);
            CnfPreprocessor full = fullStackWithPureLiterals();
            is("rowCount() of 120 rows", full.rowCount(), 120);
            full.apply(1);
            is("rowCount() beyond 120 rows", full.rowCount(), 123);
            CnfPreprocessor most = fullStackWithCircle();
            most.apply(8);
            most.apply(0);
            is("rowCount() of as many rows as there can be", most.rowCount(), 139);
            most.reset(1);
            most.undo();
            is("rowCount() after undo()", most.rowCount(), 139);
        });
        sentence("Promise 36", "0 the positive set of its clause, 1 the negative set of its clause, 2 its witness", () -> {
            CnfPreprocessor x = formula(10, c(9, -10, -1), c(10));
            x.apply(5);
            is("row(0, 0)", x.row(0, 0), 256);
            is("row(0, 1)", x.row(0, 1), 513);
            is("row(0, 2)", x.row(0, 2), 1);
            is("row(1, 0)", x.row(1, 0), 512);
            is("row(1, 1)", x.row(1, 1), 0);
            is("row(1, 2)", x.row(1, 2), 18);
        });
        sentence("Promise 36", "Throws IndexOutOfBoundsException if there is no such row", () -> {
            CnfPreprocessor none = formula(3, c(1, 2));
            refusesBeyond("row of an empty stack", none, INDEX, 0, i -> none.row(i, 0));
            CnfPreprocessor one = formula(3, c(1));
            one.apply(0);
            refusesBeyond("row of one row", one, INDEX, 1, i -> one.row(i, 2));
            CnfPreprocessor full = fullStackWithPureLiterals();
            is("row(119, 2)", full.row(119, 2) >= 0, true);
            refusesBeyond("row of 120 rows", full, INDEX, 120, i -> full.row(i, 2));
            full.apply(1);
            is("row(122, 2)", full.row(122, 2), 10);
            refusesBeyond("row of 123 rows", full, INDEX, 123, i -> full.row(i, 1));
            CnfPreprocessor most = fullStackWithCircle();
            most.apply(8);
            most.apply(0);
            is("row(138, 2), the last row that there can be", most.row(138, 2), 0);
            refusesBeyond("row of 139 rows", most, INDEX, 139, i -> most.row(i, 0));
            one.undo();
            refuses("row(0, 0) after undo()", one, INDEX, () -> one.row(0, 0));
        });
        sentence("Promise 36", "Throws IllegalArgumentException if what is out of range", () -> {
            CnfPreprocessor x = formula(3, c(1));
            x.apply(0);
            refusesBeyond("row, what", x, ARGUMENT, 3, what -> x.row(0, what));
        });
        sentence("Terms", "If several exceptions apply, the one that is listed first is thrown.", () -> {
            CnfPreprocessor x = formula(3, c(1));
            refusesBeyond("row of an empty stack, what", x, INDEX, 3, what -> x.row(0, what));
            x.apply(0);
            refusesBeyond("row of one row, what", x, INDEX, 3, what -> x.row(1, what));
            refusesBeyond("row(-1), what", x, INDEX, 3, what -> x.row(-1, what));
        });
    }

    // ---- promises 37 to 40

    private static void extend() {
        sentence("Promise 37", "Extends an assignment, if it satisfies the list. Only the values of the active variables"
                + " matter.", () -> {
            CnfPreprocessor x = formula(4, c(1), c(2, -3), c(-2, 3), c(-4, 2));
            x.apply(0);
            x.apply(8);
            is("the list", list(x), "2 -4 0;");
            for (int others = 0; others < 4; others++) {
                int rest = (others & 1) | (others & 2) << 1;
                is("extend of nothing and " + rest, x.extend(rest), 1);
                is("extend of 2 and " + rest, x.extend(2 | rest), 7);
                is("extend of 10 and " + rest, x.extend(10 | rest), 15);
                is("extend of 8 and " + rest, x.extend(8 | rest), NONE);
            }
            leaves("extend", x, () -> x.extend(3));
        });
        sentence("Promise 37", "assignment: 0 to 2 to the power of V, minus 1", () -> {
            for (int variables = 1; variables <= 10; variables++) {
                CnfPreprocessor x = formula(variables);
                int last = (1 << variables) - 1;
                is("extend(0)", x.extend(0), 0);
                is("extend of the last assignment", x.extend(last), last);
            }
        });
        sentence("Promise 37", "NONE if a clause of the list is not satisfied", () -> {
            CnfPreprocessor x = formula(10, c(1, 2), c(-10, -2));
            is("extend(0)", x.extend(0), NONE);
            is("extend(514): the last clause", x.extend(514), NONE);
            is("extend(513)", x.extend(513), 513);
            is("extend(0) of the empty clause", formula(1, c()).extend(0), NONE);
            is("extend(1) of the empty clause", formula(1, c()).extend(1), NONE);
        });
        sentence("Promise 37", "Throws IllegalArgumentException if assignment is out of range", () -> {
            for (int variables = 1; variables <= 10; variables++) {
                CnfPreprocessor x = formula(variables);
                refusesBeyond("extend with " + variables + " variables", x, ARGUMENT, 1 << variables, x::extend);
                CnfPreprocessor empty = formula(variables, c());
                refusesBeyond("extend of the empty clause", empty, ARGUMENT, 1 << variables, empty::extend);
            }
        });
    }

    private static void solve() {
        sentence("Promise 38", "Finds the smallest assignment (as a number) that satisfies the list", () -> {
            is("solve() without clauses", formula(10).solve(), 0);
            is("solve() of all variables", formula(10, c(1), c(2), c(3), c(4), c(5), c(6), c(7), c(8), c(9), c(10)).solve(),
                    1023);
            is("solve() of 3 and not 4", formula(3, c(1, 3), c(2, 3), c(-3, 1)).solve(), 3);
            is("solve() of the highest variable alone", formula(10, c(10)).solve(), 512);
            CnfPreprocessor x = formula(3, c(-1));
            leaves("solve()", x, () -> is("solve()", x.solve(), 0));
        });
        sentence("Promise 38", "and in which all variables that are not active are false, and extends it", () -> {
            CnfPreprocessor x = formula(4, c(1), c(2, 3), c(-4, 3));
            x.apply(0);
            is("solve() with a fixed variable", x.solve(), 3);
            x.eliminate(1);
            is("solve() with an eliminated variable", x.solve(), 3);
            CnfPreprocessor last = formula(10, c(10), c(1, 2));
            last.apply(0);
            is("solve() with the highest variable fixed", last.solve(), 513);
            CnfPreprocessor all = formula(1, c(1));
            all.apply(0);
            is("solve() without active variables", all.solve(), 1);
            CnfPreprocessor changed = formula(2, c(1, 2));
            changed.apply(5);
            is("solve(): a row changes an active variable", changed.solve(), 1);
        });
        sentence("Promise 38", "Returns the extended assignment; NONE if there is none.", () -> {
            is("solve() of 1 and -1", formula(10, c(1), c(-1)).solve(), NONE);
            is("solve() of the empty clause", formula(10, c()).solve(), NONE);
            is("solve() of four clauses", formula(2, c(1, 2), c(-1, 2), c(1, -2), c(-1, -2)).solve(), NONE);
            CnfPreprocessor x = formula(2, c(1), c(-1));
            x.apply(0);
            is("solve() of what has become contradictory", x.solve(), NONE);
        });
    }

    private static void unsatisfied() {
        sentence("Promise 39", "Counts the original clauses that an assignment does not satisfy.", () -> {
            is("unsatisfied(0) without clauses", formula(3).unsatisfied(0), 0);
            CnfPreprocessor x = formula(3, c(1), c(-1), c(1, 2), c(1, 2), c());
            is("unsatisfied(0)", x.unsatisfied(0), 4);
            is("unsatisfied(1)", x.unsatisfied(1), 2);
            CnfPreprocessor full = fullOriginals();
            is("unsatisfied(0) of 32 clauses", full.unsatisfied(0), 32);
            is("unsatisfied(255) of 32 clauses", full.unsatisfied(255), 0);
            full.apply(0);
            is("unsatisfied(0): fixed variables count as they are given", full.unsatisfied(0), 32);
        });
        sentence("Promise 39", "assignment: 0 to 2 to the power of V, minus 1", () -> {
            for (int variables = 1; variables <= 10; variables++) {
                CnfPreprocessor x = formula(variables, c(variables), c(-1));
                is("unsatisfied(0)", x.unsatisfied(0), 1);
                is("unsatisfied of the last assignment", x.unsatisfied((1 << variables) - 1), 1);
            }
        });
        sentence("Promise 39", "Throws IllegalArgumentException if assignment is out of range", () -> {
            for (int variables = 1; variables <= 10; variables++) {
                CnfPreprocessor x = formula(variables, c(1));
                refusesBeyond("unsatisfied with " + variables + " variables", x, ARGUMENT, 1 << variables, x::unsatisfied);
            }
        });
    }

    private static void models() {
        sentence("Promise 40", "true for the assignments of all variables that satisfy all original clauses", () -> {
            for (int variables = 1; variables <= 10; variables++) {
                is("models(true) without clauses", formula(variables).models(true), 1 << variables);
            }
            is("models(true) of one model", formula(2, c(1), c(-2)).models(true), 1);
            is("models(true) of the empty clause", formula(10, c()).models(true), 0);
            CnfPreprocessor x = formula(3, c(1), c(2, 3));
            is("models(true)", x.models(true), 3);
            x.apply(0);
            x.apply(1);
            is("models(true) after techniques", x.models(true), 3);
        });
        sentence("Promise 40", "false for the assignments of the active variables that satisfy the list", () -> {
            for (int variables = 1; variables <= 10; variables++) {
                is("models(false) without clauses", formula(variables).models(false), 1 << variables);
            }
            CnfPreprocessor x = formula(3, c(1), c(2, 3));
            is("models(false)", x.models(false), 3);
            x.apply(0);
            is("models(false) of two active variables", x.models(false), 3);
            x.apply(1);
            is("models(false) of one active variable", x.models(false), 2);
            CnfPreprocessor none = formula(1, c(1));
            none.apply(0);
            is("models(false) without active variables", none.models(false), 1);
            CnfPreprocessor clash = formula(1, c(1), c(-1));
            is("models(false) of 1 and -1", clash.models(false), 0);
            clash.apply(0);
            is("models(false) without active variables, contradictory", clash.models(false), 0);
            leaves("models", x, () -> x.models(false));
        });
    }

    // ---- promises 41 and 42

    private static void predict() {
        sentence("Promise 41", "Tells what the list would be after a technique. Nothing changes.", () -> {
            for (CnfPreprocessor x : new CnfPreprocessor[] {
                    formula(4, c(1, 2), c(-1, 2), c(-2, 3), c(-3, 4, 1), c(2, 3, 4)), fullList(), almostFullStack(),
                    formula(3), formula(3, c(1), c(-1)), formula(2, c(1, 2), c(1, -2), c(-1, 2), c(-1, -2))}) {
                for (int t = 0; t < 10; t++) {
                    int technique = t;
                    int[] got = new int[2];
                    leaves("predict(" + t + ")", x, () -> {
                        got[0] = x.predict(technique, false);
                        got[1] = x.predict(technique, true);
                    });
                    x.apply(t);
                    is("predict(" + t + ", false)", got[0], x.clauseCount());
                    is("predict(" + t + ", true)", got[1], x.literalCount());
                    x.undo();
                    x.setGrowth(8);
                }
            }
        });
        sentence("Promise 41", "true for the number of literals, false for the number of clauses", () -> {
            CnfPreprocessor x = formula(3, c(1), c(-1, 2, 3), c(1, 2));
            is("predict(0, true)", x.predict(0, true), 2);
            is("predict(0, false)", x.predict(0, false), 1);
            CnfPreprocessor clash = formula(3, c(1), c(-1), c(2, 3));
            is("predict(0, true) of a contradiction", clash.predict(0, true), 0);
            is("predict(0, false) of a contradiction", clash.predict(0, false), 1);
            CnfPreprocessor empty = formula(3, c());
            is("predict(9, true) of a contradictory formula", empty.predict(9, true), 0);
            is("predict(9, false) of a contradictory formula", empty.predict(9, false), 1);
            is("predict(4, false) without clauses", formula(3).predict(4, false), 0);
        });
        sentence("Promise 41", "Throws IllegalArgumentException if technique is out of range", () -> {
            CnfPreprocessor x = formula(3, c(1));
            refusesBeyond("predict, literals", x, ARGUMENT, 10, t -> x.predict(t, true));
            refusesBeyond("predict, clauses", x, ARGUMENT, 10, t -> x.predict(t, false));
            CnfPreprocessor empty = formula(3, c());
            refusesBeyond("predict of a contradictory formula", empty, ARGUMENT, 10, t -> empty.predict(t, true));
        });
    }

    private static void bestTechnique() {
        sentence("Promise 42", "Finds the technique after which the list would have the fewest literals", () -> {
            // Strengthening leaves 32 literals in 23 clauses, subsumption 69 in 21.
            CnfPreprocessor x = formula(6);
            x.generate(23765, 16, 3);
            x.generate(15677, 7, 4);
            is("predict(3, true)", x.predict(3, true), 32);
            is("predict(3, false)", x.predict(3, false), 23);
            is("predict(2, true)", x.predict(2, true), 69);
            is("predict(2, false)", x.predict(2, false), 21);
            leaves("bestTechnique()", x, () -> is("bestTechnique()", x.bestTechnique(), 3));
        });
        sentence("Promise 42", "of several the one after which it would have the fewest clauses", () -> {
            // Strengthening leaves 72 literals in 27 clauses, the removal of covered clauses 72 in 24.
            CnfPreprocessor x = formula(9);
            x.generate(41076, 18, 3);
            x.generate(51617, 9, 3);
            is("predict(3, true)", x.predict(3, true), 72);
            is("predict(6, true)", x.predict(6, true), 72);
            is("bestTechnique()", x.bestTechnique(), 6);
            // Units leave the empty clause, the elimination of the other variable, too; pure literals leave the clash.
            is("bestTechnique() of a contradiction", formula(3, c(1), c(-1), c(2, 3)).bestTechnique(), 0);
        });
        sentence("Promise 42", "of several the one with the lowest number", () -> {
            is("bestTechnique() without clauses", formula(3).bestTechnique(), 0);
            is("bestTechnique() of a contradictory formula", formula(3, c()).bestTechnique(), 0);
            is("bestTechnique() of a pure literal", formula(3, c(1, 2)).bestTechnique(), 1);
            is("bestTechnique() beside a full stack", fullStackWithPureLiterals().bestTechnique(), 1);
        });
    }

    // ---- promise 43

    /** The values that the document lists, with V, the growth, the length of the text and the saved states given. */
    private static List<Long> values(CnfPreprocessor x, int variables, int growth, int length, int saved) {
        int clauses = x.clauseCount();
        int originals = x.originalCount();
        int rows = x.rowCount();
        List<Long> all = new ArrayList<>(List.of((long) variables, (long) growth, x.contradictory() ? 1L : 0L));
        all.add((long) clauses);
        for (int i = 0; i < clauses; i++) {
            all.add((long) x.clause(i, true));
            all.add((long) x.clause(i, false));
        }
        all.add((long) originals);
        for (int i = 0; i < originals; i++) {
            all.add((long) x.original(i, true));
            all.add((long) x.original(i, false));
        }
        for (int v = 0; v < variables; v++) {
            all.add((long) x.status(v));
            all.add((long) x.value(v));
        }
        all.add((long) rows);
        for (int i = 0; i < rows; i++) {
            for (int what = 0; what < 3; what++) {
                all.add((long) x.row(i, what));
            }
        }
        for (int technique = 0; technique < 10; technique++) {
            all.add((long) x.total(technique));
        }
        all.add((long) length);
        all.add((long) saved);
        return all;
    }

    /** The hash, computed without any overflow and cut to 64 bits in the end. */
    private static long hash(List<Long> values) {
        BigInteger h = BigInteger.valueOf(3079);
        for (long value : values) {
            h = h.multiply(BigInteger.valueOf(31)).add(BigInteger.valueOf(value));
        }
        return h.longValue();
    }

    private static void digest() {
        sentence("Promise 43", "Returns the hash, with the overflow of long arithmetic ignored.", () -> {
            CnfPreprocessor x = new CnfPreprocessor();
            is("digest() of a new object", x.digest(), hash(values(x, 8, 0, 0, 0)));
            is("digest() of 1 variable", formula(1).digest(), hash(values(formula(1), 1, 0, 0, 1)));
            CnfPreprocessor ten = formula(10);
            ten.generate(1, 32, 10);
            is("digest() of 32 clauses of 10 literals", ten.digest(), hash(values(ten, 10, 0, 0, 2)));
            leaves("digest()", ten, ten::digest);
        });
        sentence("Promise 43", "V; the growth; 1 if the formula is contradictory, otherwise 0", () -> {
            CnfPreprocessor x = formula(3, c(1), c());
            is("digest() of a contradictory formula", x.digest(), hash(values(x, 3, 0, 0, 3)));
            x.setGrowth(8);
            is("digest() with growth 8", x.digest(), hash(values(x, 3, 8, 0, 4)));
        });
        sentence("Promise 43", "the number of clauses of the list, and for each of them its positive and its negative set",
                () -> {
            CnfPreprocessor x = fullList();
            is("digest() of a full list", x.digest(), hash(values(x, 10, 8, 0, 6)));
        });
        sentence("Promise 43", "for each variable its status and value(); the number of rows, and for each of them row()"
                + " for what = 0 to 2; total() for the techniques 0 to 9", () -> {
            CnfPreprocessor x = fullStackWithEquivalence();
            x.apply(3);
            x.apply(8);
            is("rowCount()", x.rowCount(), 122);
            is("digest()", x.digest(), hash(values(x, 10, 8, 0, 6)));
        });
        sentence("Promise 43", "the length of the text; the number of saved states", () -> {
            CnfPreprocessor x = new CnfPreprocessor();
            write(x, " ".repeat(160));
            is("digest() of a full text", x.digest(), hash(values(x, 8, 0, 160, 0)));
            for (int saved = 1; saved <= 6; saved++) {
                x.setGrowth(0);
                is("digest() with " + saved + " saved states", x.digest(), hash(values(x, 8, 0, 160, saved)));
            }
            x.setGrowth(0);
            is("digest() after a state was dropped", x.digest(), hash(values(x, 8, 0, 160, 6)));
            x.undo();
            x.clearText();
            is("digest() after undo() and clearText()", x.digest(), hash(values(x, 8, 0, 0, 5)));
        });
    }
}
