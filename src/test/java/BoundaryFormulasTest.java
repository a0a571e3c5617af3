import java.math.BigInteger;

/** The boundary cases that the document names for formulas: its Terms, and promises 1 to 13. */
public final class BoundaryFormulasTest extends Checks {

    public static void main(String[] args) {
        variablesAndClauses();
        theList();
        onlyActiveVariables();
        contradictions();
        newObject();
        reset();
        addClause();
        addClauseRefuses();
        generate();
        generateRefuses();
        originals();
        counts();
        clause();
        contradictory();
        statusAndValue();
        occurrences();
        finish();
    }

    // ---- Terms

    private static void variablesAndClauses() {
        sentence("Terms", "numbered from 0 to V - 1, where V is 1 to 10 (8 initially)", () -> {
            CnfPreprocessor x = new CnfPreprocessor();
            is("status(7) with 8 variables", x.status(7), 0);
            refuses("status(8) with 8 variables", x, INDEX, () -> x.status(8));
            x.reset(1);
            is("status(0) with 1 variable", x.status(0), 0);
            refuses("status(1) with 1 variable", x, INDEX, () -> x.status(1));
            x.reset(10);
            is("status(9) with 10 variables", x.status(9), 0);
            refuses("status(10) with 10 variables", x, INDEX, () -> x.status(10));
        });
        sentence("Terms", "the positive one has the number 2 * v, the negative one 2 * v + 1", () -> {
            CnfPreprocessor x = formula(10, c(1), c(-10));
            is("occurrences(0)", x.occurrences(0), 1);
            is("occurrences(1)", x.occurrences(1), 0);
            is("occurrences(18)", x.occurrences(18), 0);
            is("occurrences(19)", x.occurrences(19), 1);
        });
        sentence("Terms", "A clause is a set of literals without complementary ones, perhaps empty.", () -> {
            CnfPreprocessor x = formula(2);
            is("addClause(0, 0)", x.addClause(0, 0), 1);
            x.undo();
            refuses("addClause(2, 2)", x, ARGUMENT, () -> x.addClause(2, 2));
            is("addClause(1, 2)", x.addClause(1, 2), 1);
        });
        sentence("Terms", "Sets of variables are ints in which bit v stands for variable v.", () -> {
            CnfPreprocessor x = formula(10);
            x.addClause(512, 511);
            is("clause(0, true)", x.clause(0, true), 512);
            is("clause(0, false)", x.clause(0, false), 511);
            x.addClause(1023, 0);
            is("clause(1, true)", x.clause(1, true), 1023);
            is("clause(1, false)", x.clause(1, false), 0);
        });
        sentence("Terms", "The literals of a clause are ordered by their numbers.", () -> {
            CnfPreprocessor x = formula(10, c(10, -9, 8, -7, 6, -5, 4, -3, 2, -1));
            StringBuilder all = new StringBuilder();
            for (int i = 0; x.outputByte(i) != NONE; i++) {
                all.append((char) x.outputByte(i));
            }
            is("the list as a text", all.toString(), "-1 2 -3 4 -5 6 -7 8 -9 10 0\n");
        });
        sentence("Terms", "it is an int in which bit v is 1 if variable v is true", () -> {
            CnfPreprocessor x = formula(10, c(10), c(-1));
            is("unsatisfied(512)", x.unsatisfied(512), 0);
            is("unsatisfied(1)", x.unsatisfied(1), 2);
            is("unsatisfied(1023)", x.unsatisfied(1023), 1);
            is("unsatisfied(0)", x.unsatisfied(0), 1);
        });
        sentence("Terms", "An assignment satisfies a clause if at least one of its literals is true.", () -> {
            CnfPreprocessor x = formula(10, c(1, 2, 3, 4, 5, -6, -7, -8, -9, -10));
            is("unsatisfied with no true literal", x.unsatisfied(0b1111100000), 1);
            is("unsatisfied with the lowest literal true", x.unsatisfied(0b1111100001), 0);
            is("unsatisfied with the highest literal true", x.unsatisfied(0b0111100000), 0);
            is("unsatisfied with all literals true", x.unsatisfied(0b0000011111), 0);
            is("unsatisfied of the empty clause", formula(10, c()).unsatisfied(1023), 1);
        });
    }

    private static void theList() {
        sentence("Terms", "The original clauses are the clauses that were added, in this order; there are at most 32.",
                () -> {
            CnfPreprocessor x = formula(8);
            x.generate(5, 30, 3);
            write(x, "1 0 -2 0");
            is("readClauses() up to 32", x.readClauses(), 2);
            is("originalCount()", x.originalCount(), 32);
            is("original(30, true)", x.original(30, true), 1);
            is("original(31, false)", x.original(31, false), 2);
            refuses("addClause beyond 32", x, STATE, () -> x.addClause(1, 0));
            refuses("generate beyond 32", x, STATE, () -> x.generate(1, 1, 1));
            refuses("readClauses beyond 32", x, STATE, x::readClauses);
        });
        sentence("Terms", "A clause that is added is appended to the list as well; the techniques change the list.",
                () -> {
            CnfPreprocessor x = formula(4, c(1, 2), c(1, 2, 3));
            x.apply(2);
            add(x, -4);
            is("the list", list(x), "1 2 0;-4 0;");
            is("originalCount()", x.originalCount(), 3);
        });
        sentence("Terms", "It has at most 48 clauses, numbered from 0", () -> {
            CnfPreprocessor x = fullList();
            is("clauseCount() of a full list", x.clauseCount(), 48);
            is("clause 0", clauseOf(x.clause(0, true), x.clause(0, false)), "3 4 ");
            is("clause 47", clauseOf(x.clause(47, true), x.clause(47, false)), "7 8 9 ");
            refuses("clause(48, true)", x, INDEX, () -> x.clause(48, true));
            refuses("eliminate(2), which would make 49 clauses", x, STATE, () -> x.eliminate(2));
        });
        sentence("Terms", "when a clause is removed, the numbers of the clauses after it decrease by 1", () -> {
            CnfPreprocessor x = formula(4, c(1, 2, 3), c(1, 2), c(3, 4), c(1, 2, 4), c(2, 4), c(2, 3, 4));
            is("apply(2), which removes the first, a middle and the last clause", x.apply(2), 3);
            is("the list", list(x), "1 2 0;3 4 0;2 4 0;");
            refuses("clause(3, true)", x, INDEX, () -> x.clause(3, true));
        });
        sentence("Terms", "It may contain equal clauses.", () -> {
            CnfPreprocessor x = formula(1);
            for (int i = 1; i <= 32; i++) {
                is("addClause number " + i + " of equal ones", x.addClause(1, 0), i);
            }
            is("clauseCount()", x.clauseCount(), 32);
            is("occurrences(0)", x.occurrences(0), 32);
        });
    }

    private static void onlyActiveVariables() {
        sentence("Terms", "Each variable has a status: 0 active (initially), 1 fixed, 2 eliminated, 3 substituted.", () -> {
            CnfPreprocessor x = used();
            is("status(0), fixed", x.status(0), 1);
            is("status(1), active", x.status(1), 0);
            is("status(2), substituted", x.status(2), 3);
            is("status(3), eliminated", x.status(3), 2);
        });
        sentence("Terms", "Only active variables occur in the list.", () -> {
            for (int technique = 0; technique < 10; technique++) {
                CnfPreprocessor x = formula(6, c(-1, 2), c(-2, 1), c(3), c(-3, 4, 5, 1), c(-4, 5, 2), c(-5, 6, 1), c(6, -1));
                x.apply(technique);
                for (int v = 0; v < 6; v++) {
                    int found = x.occurrences(2 * v) + x.occurrences(2 * v + 1);
                    is("variable " + v + " after technique " + technique, x.status(v) == 0 || found == 0, true);
                }
            }
        });
    }

    private static void contradictions() {
        sentence("Terms", "The formula is contradictory if the list contains the empty clause.", () -> {
            is("contradictory() without clauses", formula(2).contradictory(), false);
            is("contradictory() of 1 and -1", formula(2, c(1), c(-1)).contradictory(), false);
            is("contradictory() of the empty clause", formula(2, c()).contradictory(), true);
        });
        sentence("Terms", "As soon as the empty clause would be in the list, the list becomes the empty clause alone",
                () -> {
            CnfPreprocessor x = formula(3, c(1, 2), c(3), c());
            is("the list after addClause(0, 0)", list(x), "0;");
            CnfPreprocessor read = formula(3, c(1, 2));
            write(read, "3 0 0 1 0 0");
            is("readClauses() with two empty clauses", read.readClauses(), 4);
            is("the list after readClauses()", list(read), "0;");
            CnfPreprocessor resolved = formula(3, c(1), c(1, 2), c(-1), c(-1, 3), c(2, 3));
            is("eliminate(0) with an empty resolvent", resolved.eliminate(0), 4);
            is("the list after eliminate(0)", list(resolved), "0;");
        });
        sentence("Terms", "a technique that is being applied ends at once; everything else remains as it is at this"
                + " moment", () -> {
            CnfPreprocessor units = formula(5, c(2, 3), c(1), c(-1), c(3));
            ends("units", units, 0, 1, "1 : 1;", 0b00001);
            CnfPreprocessor strengthening = formula(5, c(2, 3, 1), c(1), c(-1), c(2, -3));
            ends("strengthening", strengthening, 3, 3, "", 0);
            CnfPreprocessor elimination = formula(5, c(1), c(-1), c(2, 3), c(-2, 3), c(4));
            ends("elimination", elimination, 4, 2, "2 3 : 3;-2 3 : 3;1 : 1;", 0b00101);
            CnfPreprocessor failed = formula(5, c(1, 2), c(1, -2), c(-1, 2), c(-1, -2), c(-3, 4), c(-3, -4));
            ends("failed literals", failed, 7, 1, "-1 : -1;2 : 2;", 0b00011);
            CnfPreprocessor equivalences = formula(5, c(1, 2), c(1, -2), c(-1, 3), c(-1, -3), c(4, -5), c(-4, 5));
            ends("equivalences", equivalences, 8, 0, "", 0);
            CnfPreprocessor vivification = formula(5, c(1, 2, 3), c(-1), c(-2), c(-3), c(1, 2, 3, 4));
            ends("vivification", vivification, 9, 3, "", 0);
        });
    }

    /** A technique that makes a formula of 5 variables contradictory; some of them are not active afterwards. */
    private static void ends(String what, CnfPreprocessor x, int technique, int result, String rows, int inactive) {
        int originals = x.originalCount();
        x.setGrowth(5);
        is(what + ", the result", x.apply(technique), result);
        is(what + ", the list", list(x), "0;");
        is(what + ", the stack", rows(x), rows);
        is(what + ", total", x.total(technique), result);
        is(what + ", originalCount()", x.originalCount(), originals);
        int found = 0;
        for (int v = 0; v < 5; v++) {
            found |= x.status(v) == 0 ? 0 : 1 << v;
        }
        is(what + ", the variables that are not active", found, inactive);
        is(what + ", setGrowth(0)", x.setGrowth(0), 5);
    }

    // ---- promises 1 and 2

    private static void newObject() {
        sentence("Promise 1", "Creates a formula without clauses, with 8 variables.", () -> {
            CnfPreprocessor x = new CnfPreprocessor();
            is("originalCount()", x.originalCount(), 0);
            is("clauseCount()", x.clauseCount(), 0);
            is("literalCount()", x.literalCount(), 0);
            is("contradictory()", x.contradictory(), false);
            is("rowCount()", x.rowCount(), 0);
            is("outputByte(0)", x.outputByte(0), NONE);
            is("solve()", x.solve(), 0);
            is("models(true)", x.models(true), 256);
            is("models(false)", x.models(false), 256);
            is("clearText()", x.clearText(), 0);
            refuses("undo()", x, STATE, x::undo);
            for (int v = 0; v < 8; v++) {
                is("status(" + v + ")", x.status(v), 0);
                is("value(" + v + ")", x.value(v), NONE);
            }
            for (int technique = 0; technique < 10; technique++) {
                is("total(" + technique + ")", x.total(technique), 0);
            }
            is("setGrowth(1)", x.setGrowth(1), 0);
            is("reset(3)", x.reset(3), 8);
        });
    }

    /** A formula in which something of everything has been changed. */
    private static CnfPreprocessor used() {
        CnfPreprocessor x = formula(6, c(-1), c(2, -3), c(-2, 3), c(4, 5), c(-4, 6), c(5, 6), c(5, 6));
        x.setGrowth(8);
        for (int technique : new int[] {0, 8, 2}) {
            x.apply(technique);
        }
        x.eliminate(3);
        return x;
    }

    private static void reset() {
        sentence("Promise 2", "there are no clauses", () -> {
            CnfPreprocessor x = used();
            x.reset(6);
            is("clauseCount()", x.clauseCount(), 0);
            is("originalCount()", x.originalCount(), 0);
            CnfPreprocessor y = formula(2, c());
            y.reset(2);
            is("contradictory() of what was contradictory", y.contradictory(), false);
        });
        sentence("Promise 2", "all variables are active", () -> {
            CnfPreprocessor x = used();
            is("status(0) before", x.status(0), 1);
            is("status(2) before", x.status(2), 3);
            is("status(3) before", x.status(3), 2);
            x.reset(6);
            for (int v = 0; v < 6; v++) {
                is("status(" + v + ")", x.status(v), 0);
                is("value(" + v + ")", x.value(v), NONE);
            }
        });
        sentence("Promise 2", "the stack is empty", () -> {
            CnfPreprocessor x = used();
            is("rowCount() before", x.rowCount(), 4);
            x.reset(6);
            is("rowCount()", x.rowCount(), 0);
            is("addClause(1, 0)", x.addClause(1, 0), 1);
        });
        sentence("Promise 2", "the growth and all totals are 0", () -> {
            CnfPreprocessor x = used();
            is("total(4) before", x.total(4), 1);
            x.reset(6);
            for (int technique = 0; technique < 10; technique++) {
                is("total(" + technique + ")", x.total(technique), 0);
            }
            is("setGrowth(0)", x.setGrowth(0), 0);
        });
        sentence("Promise 2", "the growth and all totals are 0. Undoable.", () -> {
            CnfPreprocessor x = used();
            long before = x.digest();
            x.reset(1);
            x.undo();
            // All of the 6 saved states stood before; the oldest one was dropped, and the latest one is used up.
            is("digest() after undo()", x.digest(), before - 1);
        });
        sentence("Promise 2", "the number of variables, 1 to 10", () -> {
            CnfPreprocessor x = new CnfPreprocessor();
            is("reset(1)", x.reset(1), 8);
            is("reset(10)", x.reset(10), 1);
            is("reset(10) again", x.reset(10), 10);
            is("reset(8)", x.reset(8), 10);
        });
        sentence("Promise 2", "Returns the number of variables before.", () -> {
            CnfPreprocessor x = new CnfPreprocessor();
            int before = 8;
            for (int variables = 1; variables <= 10; variables++) {
                is("reset(" + variables + ")", x.reset(variables), before);
                before = variables;
            }
        });
        sentence("Promise 2", "Throws IllegalArgumentException if variables is out of range", () -> {
            CnfPreprocessor x = used();
            refuses("reset(0)", x, ARGUMENT, () -> x.reset(0));
            refusesBeyond("reset", x, ARGUMENT, 11, x::reset);
            is("clauseCount() after refused calls", x.clauseCount(), 2);
        });
        sentence("Terms", "The state consists of everything except the text.", () -> {
            CnfPreprocessor x = formula(3);
            write(x, "us");
            x.reset(3);
            is("clearText() after reset", x.clearText(), 2);
            x.undo();
            is("clearText() after undo()", x.clearText(), 0);
        });
    }

    // ---- promise 3

    private static void addClause() {
        sentence("Promise 3", "Adds a clause. Undoable.", () -> {
            CnfPreprocessor x = formula(3, c(1, -2));
            long before = x.digest();
            x.addClause(4, 1);
            is("the list", list(x), "1 -2 0;-1 3 0;");
            is("undo()", x.undo(), 2);
            is("digest() after undo()", x.digest(), before);
            x.addClause(0, 0);
            x.undo();
            is("the list after undo() of the empty clause", list(x), "1 -2 0;");
        });
        sentence("Promise 3", "Returns the number of original clauses afterwards.", () -> {
            CnfPreprocessor x = formula(1);
            is("the first addClause", x.addClause(0, 1), 1);
            is("addClause of an equal clause", x.addClause(0, 1), 2);
            is("addClause of the empty clause", x.addClause(0, 0), 3);
            CnfPreprocessor y = formula(8);
            y.generate(1, 31, 1);
            is("the 32nd addClause", y.addClause(1, 0), 32);
        });
    }

    private static void addClauseRefuses() {
        sentence("Promise 3", "if one of the sets is negative", () -> {
            CnfPreprocessor x = formula(10);
            for (int set : new int[] {-1, LEAST, -1024, LEAST + 1}) {
                refuses("addClause(" + set + ", 0)", x, ARGUMENT, () -> x.addClause(set, 0));
                refuses("addClause(0, " + set + ")", x, ARGUMENT, () -> x.addClause(0, set));
            }
            refuses("addClause(-1, -1)", x, ARGUMENT, () -> x.addClause(-1, -1));
        });
        sentence("Promise 3", "or contains a number that is not a variable", () -> {
            for (int variables = 1; variables <= 10; variables++) {
                CnfPreprocessor x = formula(variables);
                int beyond = 1 << variables;
                refuses("addClause(" + beyond + ", 0)", x, ARGUMENT, () -> x.addClause(beyond, 0));
                refuses("addClause(0, " + beyond + ")", x, ARGUMENT, () -> x.addClause(0, beyond));
                is("addClause(" + beyond / 2 + ", 0)", x.addClause(beyond / 2, 0), 1);
                is("addClause(0, " + (beyond - 1) + ")", x.addClause(0, beyond - 1), 2);
            }
            CnfPreprocessor y = formula(10);
            refuses("addClause(greatest int, 0)", y, ARGUMENT, () -> y.addClause(GREATEST, 0));
            refuses("addClause(0, 2 to the power of 30)", y, ARGUMENT, () -> y.addClause(0, 1 << 30));
        });
        sentence("Promise 3", "or the sets have a variable in common", () -> {
            CnfPreprocessor x = formula(10);
            refuses("addClause(1, 1)", x, ARGUMENT, () -> x.addClause(1, 1));
            refuses("addClause(512, 512)", x, ARGUMENT, () -> x.addClause(512, 512));
            refuses("addClause(1023, 1023)", x, ARGUMENT, () -> x.addClause(1023, 1023));
            refuses("addClause(3, 6)", x, ARGUMENT, () -> x.addClause(3, 6));
            is("addClause(682, 341)", x.addClause(682, 341), 1);
        });
        sentence("Promise 3", "Throws IllegalStateException if a variable is not active", () -> {
            CnfPreprocessor x = formula(3, c(-1, 2), c(2, 3));
            x.eliminate(0);
            is("rowCount()", x.rowCount(), 0);
            is("contradictory()", x.contradictory(), false);
            refuses("addClause with this variable", x, STATE, () -> x.addClause(1, 0));
            refuses("addClause with another variable", x, STATE, () -> x.addClause(2, 0));
            refuses("addClause(0, 0)", x, STATE, () -> x.addClause(0, 0));
            x.undo();
            is("addClause after undo()", x.addClause(1, 0), 3);
        });
        sentence("Promise 3", "the stack is not empty", () -> {
            CnfPreprocessor x = formula(3, c(1, 2));
            x.apply(5);
            is("rowCount()", x.rowCount(), 1);
            for (int v = 0; v < 3; v++) {
                is("status(" + v + ")", x.status(v), 0);
            }
            refuses("addClause with a row in the stack", x, STATE, () -> x.addClause(4, 0));
        });
        sentence("Promise 3", "the formula is contradictory", () -> {
            CnfPreprocessor x = formula(3, c());
            refuses("addClause(1, 0)", x, STATE, () -> x.addClause(1, 0));
            refuses("addClause(0, 0)", x, STATE, () -> x.addClause(0, 0));
        });
        sentence("Promise 3", "or there are 32 original clauses", () -> {
            CnfPreprocessor x = fullOriginals();
            refuses("the 33rd clause", x, STATE, () -> x.addClause(1, 0));
            x.apply(2);
            is("clauseCount() after subsumption", x.clauseCount(), 8);
            refuses("the 33rd clause beside a short list", x, STATE, () -> x.addClause(1, 0));
            x.undo();
            x.undo();
            is("addClause after undo()", x.addClause(0, 1), 32);
        });
        sentence("Terms", "If several exceptions apply, the one that is listed first is thrown.", () -> {
            CnfPreprocessor x = formula(3, c());
            refuses("addClause(8, 0) to a contradictory formula", x, ARGUMENT, () -> x.addClause(8, 0));
            refuses("generate(-1, 1, 1) for a contradictory formula", x, ARGUMENT, () -> x.generate(-1, 1, 1));
            CnfPreprocessor y = fullOriginals();
            refuses("addClause(1, 1) beside 32 clauses", y, ARGUMENT, () -> y.addClause(1, 1));
            refuses("generate(1, 1, 9) beside 32 clauses", y, ARGUMENT, () -> y.generate(1, 1, 9));
        });
    }

    // ---- promise 4

    /** The literals of clauses as the document draws them, with numbers that know no limit. */
    private static String drawn(int start, int count, int width, int variables) {
        BigInteger[] x = {BigInteger.valueOf(start)};
        StringBuilder all = new StringBuilder();
        for (int i = 0; i < count; i++) {
            int positive = 0;
            int negative = 0;
            for (int w = 0; w < width; w++) {
                int k = draw(x, variables - w);
                int variable = 0;
                while (((positive | negative) >> variable & 1) == 1 || k > 0) {
                    k -= ((positive | negative) >> variable & 1) == 1 ? 0 : 1;
                    variable++;
                }
                if (draw(x, 2) == 1) {
                    negative |= 1 << variable;
                } else {
                    positive |= 1 << variable;
                }
            }
            all.append(clauseOf(positive, negative)).append("0;");
        }
        return all.toString();
    }

    private static int draw(BigInteger[] x, int below) {
        x[0] = x[0].multiply(BigInteger.valueOf(1103515245)).add(BigInteger.valueOf(12345)).mod(BigInteger.TWO.pow(31));
        return x[0].divide(BigInteger.valueOf(65536)).mod(BigInteger.valueOf(below)).intValue();
    }

    private static void generates(int variables, int start, int count, int width) {
        CnfPreprocessor x = formula(variables);
        String what = "generate(" + start + ", " + count + ", " + width + ")";
        is(what + " with " + variables + " variables", x.generate(start, count, width), count);
        is("the list after " + what, list(x), drawn(start, count, width, variables));
    }

    private static void generate() {
        sentence("Promise 4", "becomes (x * 1103515245 + 12345) modulo 2147483648, computed in long arithmetic", () -> {
            generates(8, 0, 32, 3);
            generates(8, GREATEST, 32, 3);
            generates(10, 1 << 30, 16, 5);
            generates(7, 65535, 16, 2);
            generates(7, 65536, 16, 2);
        });
        sentence("Promise 4", "k is drawn below (V minus the number of variables in the clause)", () -> {
            generates(10, 77, 20, 10);
            generates(9, 77, 20, 9);
            generates(1, 77, 20, 1);
            generates(2, 77, 20, 2);
        });
        sentence("Promise 4", "start: 0 or more", () -> {
            CnfPreprocessor x = formula(4);
            is("generate(0, 1, 1)", x.generate(0, 1, 1), 1);
            is("generate(greatest int, 1, 1)", x.generate(GREATEST, 1, 1), 2);
        });
        sentence("Promise 4", "count: the number of clauses, 1 to 32", () -> {
            CnfPreprocessor x = formula(4);
            is("generate(9, 1, 2)", x.generate(9, 1, 2), 1);
            x.undo();
            is("generate(9, 32, 2)", x.generate(9, 32, 2), 32);
            is("clauseCount()", x.clauseCount(), 32);
        });
        sentence("Promise 4", "width: the number of literals of each clause, 1 to V", () -> {
            for (int variables = 1; variables <= 10; variables++) {
                CnfPreprocessor x = formula(variables);
                is("generate(3, 2, 1)", x.generate(3, 2, 1), 2);
                is("literalCount()", x.literalCount(), 2);
                is("generate(3, 2, V)", x.generate(3, 2, variables), 4);
                is("literalCount() with " + variables + " variables", x.literalCount(), 2 + 2 * variables);
                is("the variables of the last clause", x.clause(3, true) + x.clause(3, false), (1 << variables) - 1);
            }
        });
        sentence("Promise 4", "Adds random clauses. Undoable.", () -> {
            CnfPreprocessor x = formula(4, c(1));
            long before = x.digest();
            x.generate(1, 31, 4);
            is("undo()", x.undo(), 2);
            is("digest() after undo()", x.digest(), before);
        });
        sentence("Promise 4", "Returns the number of original clauses afterwards.", () -> {
            CnfPreprocessor x = formula(4, c(1));
            is("generate(1, 3, 4)", x.generate(1, 3, 4), 4);
            is("generate(1, 28, 4)", x.generate(1, 28, 4), 32);
        });
    }

    private static void generateRefuses() {
        sentence("Promise 4", "Throws IllegalArgumentException if start is negative", () -> {
            CnfPreprocessor x = formula(4);
            refuses("generate(-1, 1, 1)", x, ARGUMENT, () -> x.generate(-1, 1, 1));
            refuses("generate(least int, 1, 1)", x, ARGUMENT, () -> x.generate(LEAST, 1, 1));
        });
        sentence("Promise 4", "or count or width is out of range", () -> {
            CnfPreprocessor x = formula(4);
            refuses("generate(0, 0, 1)", x, ARGUMENT, () -> x.generate(0, 0, 1));
            refusesBeyond("generate, the count", x, ARGUMENT, 33, count -> x.generate(0, count, 1));
            for (int variables = 1; variables <= 10; variables++) {
                CnfPreprocessor y = formula(variables);
                refuses("generate(0, 1, 0)", y, ARGUMENT, () -> y.generate(0, 1, 0));
                refusesBeyond("generate, the width", y, ARGUMENT, variables + 1, width -> y.generate(0, 1, width));
            }
        });
        sentence("Promise 4", "if a variable is not active", () -> {
            CnfPreprocessor x = formula(3, c(-1, 2), c(2, 3));
            x.eliminate(0);
            is("rowCount()", x.rowCount(), 0);
            refuses("generate(1, 1, 1)", x, STATE, () -> x.generate(1, 1, 1));
        });
        sentence("Promise 4", "the stack is not empty", () -> {
            CnfPreprocessor x = formula(3, c(1, 2));
            x.apply(5);
            is("rowCount()", x.rowCount(), 1);
            refuses("generate(1, 1, 1)", x, STATE, () -> x.generate(1, 1, 1));
        });
        sentence("Promise 4", "the formula is contradictory", () -> {
            CnfPreprocessor x = formula(3, c());
            refuses("generate(1, 1, 1)", x, STATE, () -> x.generate(1, 1, 1));
        });
        sentence("Promise 4", "or there would be more than 32 original clauses", () -> {
            CnfPreprocessor x = formula(3, c(1));
            refuses("generate(1, 32, 1) beside a clause", x, STATE, () -> x.generate(1, 32, 1));
            is("generate(1, 31, 1) beside a clause", x.generate(1, 31, 1), 32);
            refuses("generate(1, 1, 1) beside 32 clauses", x, STATE, () -> x.generate(1, 1, 1));
        });
    }

    // ---- promises 5 to 10

    private static void originals() {
        sentence("Promise 5", "Returns the number of original clauses.", () -> {
            is("originalCount() without clauses", formula(3).originalCount(), 0);
            is("originalCount() of 32 clauses", fullOriginals().originalCount(), 32);
            CnfPreprocessor x = formula(3, c(1), c(1, 2), c(-1));
            x.apply(0);
            is("originalCount() after a contradiction", x.originalCount(), 3);
            is("originalCount() of a full list", fullList().originalCount(), 32);
        });
        sentence("Promise 6", "true for the positive set, false for the negative one", () -> {
            CnfPreprocessor x = formula(10, c(1, 2, 3, 4, 5, -6, -7, -8, -9, -10), c());
            is("original(0, true)", x.original(0, true), 31);
            is("original(0, false)", x.original(0, false), 31 << 5);
            is("original(1, true) of the empty clause", x.original(1, true), 0);
            is("original(1, false) of the empty clause", x.original(1, false), 0);
        });
        sentence("Promise 6", "number of the clause, from 0", () -> {
            CnfPreprocessor x = formula(10, c(1, -10), c(-1, 2, 3), c(9));
            is("original(0, true)", x.original(0, true), 1);
            is("original(0, false)", x.original(0, false), 512);
            is("original(2, true)", x.original(2, true), 256);
            is("original(2, false)", x.original(2, false), 0);
            x.apply(0);
            is("original(2, true) after its clause has gone", x.original(2, true), 256);
            CnfPreprocessor y = fullOriginals();
            is("original(31, true)", y.original(31, true), 128);
        });
        sentence("Promise 6", "Throws IndexOutOfBoundsException if there is no such original clause", () -> {
            CnfPreprocessor none = formula(3);
            refusesBeyond("original without clauses", none, INDEX, 0, i -> none.original(i, true));
            CnfPreprocessor one = formula(3, c());
            is("original(0, true) of the empty clause", one.original(0, true), 0);
            refusesBeyond("original of one clause", one, INDEX, 1, i -> one.original(i, false));
            CnfPreprocessor full = fullOriginals();
            refusesBeyond("original of 32 clauses", full, INDEX, 32, i -> full.original(i, true));
            CnfPreprocessor list = fullList();
            refuses("original(32, true) beside a full list", list, INDEX, () -> list.original(32, true));
        });
    }

    private static void counts() {
        sentence("Promise 7", "Returns the number of clauses of the list.", () -> {
            is("clauseCount() without clauses", formula(1).clauseCount(), 0);
            is("clauseCount() of a full list", fullList().clauseCount(), 48);
            is("clauseCount() of a contradictory formula", formula(1, c(1), c(-1), c()).clauseCount(), 1);
            CnfPreprocessor x = formula(1, c(1), c(1));
            x.apply(0);
            is("clauseCount() after the last clause has gone", x.clauseCount(), 0);
        });
        sentence("Promise 8", "Returns the number of literals of all clauses of the list together.", () -> {
            is("literalCount() without clauses", formula(1).literalCount(), 0);
            is("literalCount() of the empty clause", formula(1, c()).literalCount(), 0);
            CnfPreprocessor x = formula(10);
            x.generate(1, 32, 10);
            is("literalCount() of 32 clauses of 10 literals", x.literalCount(), 320);
            // 5 clauses with 2 literals, 11 with 5, and twice 4 times 3 with 2 and 4 with 3.
            is("literalCount() of a full list", fullList().literalCount(), 5 * 2 + 11 * 5 + 2 * (12 * 2 + 4 * 3));
        });
    }

    private static void clause() {
        sentence("Promise 9", "Returns a set of a clause of the list.", () -> {
            CnfPreprocessor x = formula(10, c(1, 9, -10), c(10));
            is("clause(0, true)", x.clause(0, true), 257);
            is("clause(0, false)", x.clause(0, false), 512);
            x.apply(0);
            is("clause(0, true) after a unit", x.clause(0, true), 257);
            is("clause(0, false) after a unit", x.clause(0, false), 0);
            CnfPreprocessor empty = formula(3, c(1), c());
            is("clause(0, true) of a contradictory formula", empty.clause(0, true), 0);
            is("clause(0, false) of a contradictory formula", empty.clause(0, false), 0);
        });
        sentence("Promise 9", "Throws IndexOutOfBoundsException if there is no such clause", () -> {
            CnfPreprocessor none = formula(3);
            refusesBeyond("clause without clauses", none, INDEX, 0, i -> none.clause(i, true));
            CnfPreprocessor three = formula(3, c(1, 2), c(2, 3), c(1));
            is("clause(2, true)", three.clause(2, true), 1);
            refusesBeyond("clause of three", three, INDEX, 3, i -> three.clause(i, false));
            three.apply(2);
            refusesBeyond("clause of three, one of which is removed", three, INDEX, 2, i -> three.clause(i, true));
            CnfPreprocessor empty = formula(3, c(1), c());
            refusesBeyond("clause of a contradictory formula", empty, INDEX, 1, i -> empty.clause(i, true));
            CnfPreprocessor full = fullList();
            refusesBeyond("clause of a full list", full, INDEX, 48, i -> full.clause(i, true));
        });
    }

    private static void contradictory() {
        sentence("Promise 10", "Tells whether the formula is contradictory.", () -> {
            is("contradictory() of a new object", new CnfPreprocessor().contradictory(), false);
            CnfPreprocessor x = formula(1, c(1), c(-1));
            is("contradictory() before a technique has found it", x.contradictory(), false);
            x.apply(0);
            is("contradictory() after a technique has found it", x.contradictory(), true);
            x.undo();
            is("contradictory() after undo()", x.contradictory(), false);
            CnfPreprocessor none = formula(1, c(1));
            none.apply(0);
            is("contradictory() if no clause is left", none.contradictory(), false);
        });
    }

    // ---- promises 11 to 13

    private static void statusAndValue() {
        sentence("Promise 11", "Returns 0 active, 1 fixed, 2 eliminated, 3 substituted.", () -> {
            CnfPreprocessor x = used();
            is("status(0), fixed", x.status(0), 1);
            is("status(1), active", x.status(1), 0);
            is("status(2), substituted", x.status(2), 3);
            is("status(3), eliminated", x.status(3), 2);
            is("status(5), the last variable", x.status(5), 0);
        });
        sentence("Promise 11", "Throws IndexOutOfBoundsException if there is no such variable", () -> {
            for (int variables = 1; variables <= 10; variables++) {
                CnfPreprocessor x = formula(variables);
                is("status of the last variable", x.status(variables - 1), 0);
                refusesBeyond("status with " + variables + " variables", x, INDEX, variables, x::status);
            }
        });
        sentence("Promise 12", "for a fixed variable 1 if its positive literal was fixed, 0 if its negative one was",
                () -> {
            CnfPreprocessor x = formula(10, c(-1), c(2), c(-10), c(9));
            x.apply(0);
            is("value(0)", x.value(0), 0);
            is("value(1)", x.value(1), 1);
            is("value(9)", x.value(9), 0);
            is("value(8)", x.value(8), 1);
            CnfPreprocessor pure = formula(2, c(-1), c(2));
            pure.apply(1);
            is("value(0) of a pure literal", pure.value(0), 0);
            is("value(1) of a pure literal", pure.value(1), 1);
            CnfPreprocessor failed = formula(2, c(1, 2), c(1, -2));
            failed.apply(7);
            is("value(0) of a failed literal", failed.value(0), 1);
        });
        sentence("Promise 12", "for a substituted variable the representative r by which it was substituted", () -> {
            CnfPreprocessor x = formula(10, c(1, -10), c(-1, 10), c(1, 9), c(-1, -9));
            x.apply(8);
            is("value(9)", x.value(9), 0);
            is("value(8)", x.value(8), 1);
            x.apply(1);
            is("value(9) after more techniques", x.value(9), 0);
        });
        sentence("Promise 12", "NONE otherwise", () -> {
            CnfPreprocessor x = used();
            is("value(1) of an active variable", x.value(1), NONE);
            is("value(3) of an eliminated variable", x.value(3), NONE);
        });
        sentence("Promise 12", "Throws IndexOutOfBoundsException if there is no such variable", () -> {
            for (int variables = 1; variables <= 10; variables++) {
                CnfPreprocessor x = formula(variables);
                is("value of the last variable", x.value(variables - 1), NONE);
                refusesBeyond("value with " + variables + " variables", x, INDEX, variables, x::value);
            }
        });
    }

    private static void occurrences() {
        sentence("Promise 13", "Counts the clauses of the list that contain a literal.", () -> {
            CnfPreprocessor x = formula(10, c(1, -10), c(-10), c(-1, 10), c(-10, 2));
            is("occurrences(0)", x.occurrences(0), 1);
            is("occurrences(1)", x.occurrences(1), 1);
            is("occurrences(18)", x.occurrences(18), 1);
            is("occurrences(19)", x.occurrences(19), 3);
            is("occurrences(16), which does not occur", x.occurrences(16), 0);
            x.apply(0);
            is("occurrences(19) of a fixed variable", x.occurrences(19), 0);
            is("occurrences(0) of a contradictory formula", formula(2, c(1), c()).occurrences(0), 0);
            // 11 clauses, and those of the resolvents.
            is("occurrences(15) in a full list", fullList().occurrences(15), 11);
            is("occurrences(14) in a full list", fullList().occurrences(14), 1 + 2 * 8);
        });
        sentence("Promise 13", "Throws IndexOutOfBoundsException if there is no such literal", () -> {
            for (int variables = 1; variables <= 10; variables++) {
                CnfPreprocessor x = formula(variables);
                is("occurrences of the last literal", x.occurrences(2 * variables - 1), 0);
                refusesBeyond("occurrences with " + variables + " variables", x, INDEX, 2 * variables, x::occurrences);
            }
        });
    }
}
