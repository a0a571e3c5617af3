import java.util.function.Supplier;

/** For each promise of the document: ordinary inputs, the edges that the document names, and wrong inputs. */
public final class PromisesTest extends Checks {

    private static final int PROMISES = 43;
    private static final int[] CHECKS = new int[PROMISES + 1];
    private static int wrong = 0;

    public static void main(String[] args) {
        examples();
        newObject();
        reset();
        addClause();
        generate();
        originals();
        list();
        statusAndValue();
        occurrences();
        text();
        readClauses();
        outputByte();
        units();
        pureLiterals();
        subsumption();
        strengthening();
        elimination();
        blockedClauses();
        coveredClauses();
        failedLiterals();
        equivalences();
        vivification();
        fullStack();
        applyAndTotal();
        run();
        eliminate();
        growth();
        undo();
        resolvents();
        propagation();
        implications();
        rows();
        extendAndSolve();
        modelsAndUnsatisfied();
        predictions();
        digest();
        for (int promise = 1; promise <= PROMISES; promise++) {
            if (CHECKS[promise] == 0) {
                fail(promise, "is checked", 0, "at least once");
            }
        }
        System.out.println(wrong == 0 ? "all promises hold" : wrong + " checks went wrong");
        if (wrong != 0) {
            System.exit(1);
        }
    }

    // ---- how a check is made

    private static void fail(int promise, String what, Object got, Object due) {
        wrong++;
        System.out.println("promise " + promise + ": " + what + " is " + got + ", due is " + due);
    }

    private static void is(int promise, String what, long got, long due) {
        CHECKS[promise]++;
        if (got != due) {
            fail(promise, what, got, due);
        }
    }

    private static void is(int promise, String what, boolean got, boolean due) {
        is(promise, what, got ? 1 : 0, due ? 1 : 0);
    }

    /** The call must throw just this exception, and must change nothing. */
    private static void refuses(int promise, String what, CnfPreprocessor x, Class<?> due, Supplier<Object> call) {
        CHECKS[promise]++;
        long before = x.digest();
        try {
            fail(promise, what, call.get(), due.getSimpleName());
        } catch (RuntimeException e) {
            if (e.getClass() != due) {
                fail(promise, what, e.getClass().getSimpleName(), due.getSimpleName());
            }
        }
        if (x.digest() != before) {
            fail(promise, what + ", the state afterwards,", "changed", "unchanged");
        }
    }

    /** The list, as outputByte tells it, with ; in place of each line feed. */
    private static String output(CnfPreprocessor x) {
        StringBuilder all = new StringBuilder();
        for (int i = 0; i < 10000; i++) {
            int b = x.outputByte(i);
            if (b == CnfPreprocessor.NONE) {
                return all.toString();
            }
            all.append(b == 10 ? ';' : (char) b);
        }
        return all.toString();
    }

    private static void outputIs(int promise, String what, CnfPreprocessor x, String due) {
        CHECKS[promise]++;
        if (!output(x).equals(due)) {
            fail(promise, "the list " + what, output(x), due);
        }
    }

    private static void rowsAre(int promise, String what, CnfPreprocessor x, String due) {
        CHECKS[promise]++;
        if (!rows(x).equals(due)) {
            fail(promise, "the stack " + what, rows(x), due);
        }
    }

    // ---- the examples of the document

    private static void examples() {
        CnfPreprocessor x = new CnfPreprocessor();
        is(2, "example 1: reset(3)", x.reset(3), 8);
        is(3, "example 1: addClause(3, 0)", x.addClause(3, 0), 1);
        is(3, "example 1: addClause(2, 1)", x.addClause(2, 1), 2);
        is(3, "example 1: addClause(4, 2)", x.addClause(4, 2), 3);
        is(18, "example 1: apply(3)", x.apply(3), 2);
        is(18, "example 1: apply(0)", x.apply(0), 2);
        is(12, "example 1: value(1)", x.value(1), 1);
        is(12, "example 1: value(2)", x.value(2), 1);
        is(38, "example 1: solve()", x.solve(), 6);
        CnfPreprocessor first = x;
        refuses(3, "example 1: addClause(1, 0)", x, STATE, () -> first.addClause(1, 0));

        x = new CnfPreprocessor();
        x.reset(3);
        x.addClause(3, 0);
        x.addClause(5, 0);
        x.addClause(0, 5);
        is(25, "example 2: resolventCount(0)", x.resolventCount(0), 1);
        is(20, "example 2: eliminate(0)", x.eliminate(0), 1);
        is(7, "example 2: clauseCount()", x.clauseCount(), 1);
        is(36, "example 2: row(1, 2)", x.row(1, 2), 0);
        is(38, "example 2: solve()", x.solve(), 1);
        is(39, "example 2: unsatisfied(2)", x.unsatisfied(2), 1);

        x = new CnfPreprocessor();
        x.reset(3);
        x.addClause(1, 2);
        x.addClause(2, 1);
        x.addClause(7, 0);
        is(34, "example 3: representative(2)", x.representative(2), 0);
        is(18, "example 3: apply(8)", x.apply(8), 1);
        is(12, "example 3: value(1)", x.value(1), 0);
        is(9, "example 3: clause(0, true)", x.clause(0, true), 5);
        is(35, "example 3: rowCount()", x.rowCount(), 2);

        x = new CnfPreprocessor();
        x.reset(3);
        x.addClause(3, 0);
        x.addClause(4, 3);
        x.addClause(2, 4);
        is(27, "example 4: blockingLiteral(0)", x.blockingLiteral(0), 0);
        is(28, "example 4: coverPairs(1)", x.coverPairs(1), 1);
        is(29, "example 4: extension(1, false)", x.extension(1, false), 3);

        x = new CnfPreprocessor();
        x.reset(2);
        write(x, "1 -20");
        is(16, "example 5: readClauses()", x.readClauses(), -5);
        is(15, "example 5: clearText()", x.clearText(), 5);
        is(19, "example 5: run(1)", x.run(1), -1);

        x = new CnfPreprocessor();
        x.reset(2);
        x.addClause(1, 0);
        x.addClause(0, 1);
        is(18, "example 6: apply(0)", x.apply(0), 1);
        is(10, "example 6: contradictory()", x.contradictory(), true);
        is(38, "example 6: solve()", x.solve(), -1);
        is(23, "example 6: undo()", x.undo(), 3);
    }

    // ---- promises 1 to 13

    private static void newObject() {
        CnfPreprocessor x = new CnfPreprocessor();
        is(1, "NONE", CnfPreprocessor.NONE, -1);
        is(1, "originalCount() of a new object", x.originalCount(), 0);
        is(1, "clauseCount() of a new object", x.clauseCount(), 0);
        is(1, "rowCount() of a new object", x.rowCount(), 0);
        is(1, "clearText() of a new object", x.clearText(), 0);
        is(1, "contradictory() of a new object", x.contradictory(), false);
        is(1, "status(7) of a new object", x.status(7), 0);
        is(1, "value(7) of a new object", x.value(7), -1);
        refuses(1, "status(8) of a new object", x, INDEX, () -> x.status(8));
        refuses(1, "undo() of a new object", x, STATE, x::undo);
        for (int technique = 0; technique < 10; technique++) {
            is(1, "a total of a new object", x.total(technique), 0);
        }
        is(1, "models(true) of a new object", x.models(true), 256);
        is(1, "setGrowth(3) of a new object", x.setGrowth(3), 0);
        is(1, "reset(1) of a new object", x.reset(1), 8);
    }

    private static void reset() {
        CnfPreprocessor x = formula(5, c(1, 2), c(-1), c(3, 4, 5));
        write(x, "up");
        x.setGrowth(4);
        x.apply(0);
        x.eliminate(2);
        is(2, "reset(10)", x.reset(10), 5);
        is(2, "originalCount() after reset", x.originalCount(), 0);
        is(2, "clauseCount() after reset", x.clauseCount(), 0);
        is(2, "rowCount() after reset", x.rowCount(), 0);
        is(2, "status(0) after reset", x.status(0), 0);
        is(2, "value(0) after reset", x.value(0), -1);
        is(2, "status(2) after reset", x.status(2), 0);
        is(2, "total(0) after reset", x.total(0), 0);
        is(2, "total(4) after reset", x.total(4), 0);
        is(2, "status(9) after reset(10)", x.status(9), 0);
        refuses(2, "status(10) after reset(10)", x, INDEX, () -> x.status(10));
        is(2, "undo() after reset", x.undo(), 5);
        is(2, "clearText(): reset leaves the text", x.clearText(), 2);
        write(x, "up");
        x.reset(1);
        x.undo();
        is(2, "setGrowth(0): undo of reset restores the growth", x.setGrowth(0), 4);
        x.undo();
        x.reset(1);
        is(2, "setGrowth(0) after reset", x.setGrowth(0), 0);
        is(2, "reset(1) after reset(1)", x.reset(1), 1);
        refuses(2, "reset(0)", x, ARGUMENT, () -> x.reset(0));
        refuses(2, "reset(11)", x, ARGUMENT, () -> x.reset(11));
        refuses(2, "reset(-1)", x, ARGUMENT, () -> x.reset(-1));
        refuses(2, "reset(greatest int)", x, ARGUMENT, () -> x.reset(Integer.MAX_VALUE));
        refuses(2, "reset(least int)", x, ARGUMENT, () -> x.reset(Integer.MIN_VALUE));
    }

    private static void addClause() {
        CnfPreprocessor x = new CnfPreprocessor();
        x.reset(3);
        is(3, "addClause(5, 2)", x.addClause(5, 2), 1);
        is(3, "addClause(5, 2) again", x.addClause(5, 2), 2);
        outputIs(3, "after two equal clauses", x, "1 -2 3 0;1 -2 3 0;");
        refuses(3, "addClause(8, 0) of 3 variables", x, ARGUMENT, () -> x.addClause(8, 0));
        refuses(3, "addClause(0, 8) of 3 variables", x, ARGUMENT, () -> x.addClause(0, 8));
        refuses(3, "addClause(-1, 0)", x, ARGUMENT, () -> x.addClause(-1, 0));
        refuses(3, "addClause(0, least int)", x, ARGUMENT, () -> x.addClause(0, Integer.MIN_VALUE));
        refuses(3, "addClause(3, 6)", x, ARGUMENT, () -> x.addClause(3, 6));
        is(3, "addClause(0, 0)", x.addClause(0, 0), 3);
        is(3, "contradictory() after the empty clause", x.contradictory(), true);
        is(3, "clauseCount() after the empty clause", x.clauseCount(), 1);
        is(3, "literalCount() after the empty clause", x.literalCount(), 0);
        is(3, "originalCount() after the empty clause", x.originalCount(), 3);
        refuses(3, "addClause to a contradictory formula", x, STATE, () -> x.addClause(1, 0));
        refuses(3, "addClause, both exceptions", x, ARGUMENT, () -> x.addClause(1, 1));
        is(3, "undo() of addClause", x.undo(), 3);
        is(3, "clauseCount() after undo()", x.clauseCount(), 2);

        CnfPreprocessor full = new CnfPreprocessor();
        for (int i = 1; i <= 32; i++) {
            is(3, "addClause number " + i, full.addClause(i, 0), i);
        }
        refuses(3, "the 33rd clause", full, STATE, () -> full.addClause(1, 0));

        CnfPreprocessor negativeOnly = formula(3, c(-1, 2), c(2, 3));
        negativeOnly.eliminate(0);
        is(3, "rowCount(): a variable without positive literals pushes no row", negativeOnly.rowCount(), 0);
        refuses(3, "addClause with a variable that is not active", negativeOnly, STATE,
                () -> negativeOnly.addClause(2, 0));
        CnfPreprocessor blocked = formula(3, c(1, 2));
        blocked.apply(5);
        is(3, "rowCount() after a blocked clause", blocked.rowCount(), 1);
        refuses(3, "addClause with a row in the stack", blocked, STATE, () -> blocked.addClause(2, 0));
    }

    private static void generate() {
        CnfPreprocessor x = new CnfPreprocessor();
        x.reset(10);
        is(4, "generate(0, 5, 3)", x.generate(0, 5, 3), 5);
        long seed = 0;
        for (int clause = 0; clause < 5; clause++) {
            int[] sets = new int[2];
            for (int w = 0; w < 3; w++) {
                seed = (seed * 1103515245L + 12345L) & 0x7FFFFFFFL;
                long k = (seed >> 16) % (10 - w);
                int v = 0;
                while (((sets[0] | sets[1]) >> v & 1) == 1 || k-- > 0) {
                    v++;
                }
                seed = (seed * 1103515245L + 12345L) & 0x7FFFFFFFL;
                sets[(int) ((seed >> 16) % 2)] |= 1 << v;
            }
            is(4, "positive set of generated clause " + clause, x.original(clause, true), sets[0]);
            is(4, "negative set of generated clause " + clause, x.original(clause, false), sets[1]);
            is(4, "positive set of clause " + clause + " of the list", x.clause(clause, true), sets[0]);
        }
        is(4, "generate(greatest int, 27, 10)", x.generate(Integer.MAX_VALUE, 27, 10), 32);
        is(4, "the variables of a clause as wide as possible", x.original(31, true) ^ x.original(31, false), 1023);
        refuses(4, "generate beyond 32 clauses", x, STATE, () -> x.generate(0, 1, 1));
        x.reset(4);
        refuses(4, "generate(-1, 1, 1)", x, ARGUMENT, () -> x.generate(-1, 1, 1));
        refuses(4, "generate(0, 0, 1)", x, ARGUMENT, () -> x.generate(0, 0, 1));
        refuses(4, "generate(0, 33, 1)", x, ARGUMENT, () -> x.generate(0, 33, 1));
        refuses(4, "generate(0, 1, 0)", x, ARGUMENT, () -> x.generate(0, 1, 0));
        refuses(4, "generate(0, 1, 5) of 4 variables", x, ARGUMENT, () -> x.generate(0, 1, 5));
        is(4, "generate(7, 32, 4)", x.generate(7, 32, 4), 32);
        is(4, "undo() of generate", x.undo(), 4);
        is(4, "originalCount() after undo()", x.originalCount(), 0);
        x.addClause(1, 0);
        refuses(4, "generate(7, 32, 4) beside a clause", x, STATE, () -> x.generate(7, 32, 4));
        is(4, "generate(7, 31, 1) beside a clause", x.generate(7, 31, 1), 32);
        x.undo();
        x.apply(0);
        refuses(4, "generate with a fixed variable", x, STATE, () -> x.generate(7, 1, 1));
        refuses(4, "generate, both exceptions", x, ARGUMENT, () -> x.generate(7, 1, 5));
        x.reset(4);
        x.addClause(0, 0);
        refuses(4, "generate for a contradictory formula", x, STATE, () -> x.generate(7, 1, 1));
    }

    private static void originals() {
        CnfPreprocessor x = formula(4, c(1, -2), c(3), c(-3, 4));
        x.apply(0);
        is(5, "originalCount() after a technique", x.originalCount(), 3);
        is(6, "original(0, true)", x.original(0, true), 1);
        is(6, "original(0, false)", x.original(0, false), 2);
        is(6, "original(2, true) after a technique", x.original(2, true), 8);
        is(6, "original(2, false) after a technique", x.original(2, false), 4);
        refuses(6, "original(3, true)", x, INDEX, () -> x.original(3, true));
        refuses(6, "original(-1, false)", x, INDEX, () -> x.original(-1, false));
    }

    private static void list() {
        CnfPreprocessor x = formula(4, c(1, -2), c(3), c(-3, 4, 1), c(2, -4));
        is(7, "clauseCount()", x.clauseCount(), 4);
        is(8, "literalCount()", x.literalCount(), 8);
        is(9, "clause(2, true)", x.clause(2, true), 9);
        is(9, "clause(2, false)", x.clause(2, false), 4);
        x.apply(0);
        is(7, "clauseCount() after a unit", x.clauseCount(), 3);
        is(8, "literalCount() after a unit", x.literalCount(), 6);
        is(9, "clause(1, true) after a unit", x.clause(1, true), 9);
        is(9, "clause(1, false) after a unit", x.clause(1, false), 0);
        is(9, "clause(2, false) after a unit", x.clause(2, false), 8);
        refuses(9, "clause(3, true)", x, INDEX, () -> x.clause(3, true));
        refuses(9, "clause(-1, true)", x, INDEX, () -> x.clause(-1, true));
        is(10, "contradictory() of a satisfiable formula", x.contradictory(), false);
        CnfPreprocessor unsatisfiable = formula(1, c(1), c(-1));
        is(10, "contradictory() before a technique has found it", unsatisfiable.contradictory(), false);
        unsatisfiable.apply(3);
        is(10, "contradictory() after a technique has found it", unsatisfiable.contradictory(), true);
        is(7, "clauseCount() of a contradictory formula", unsatisfiable.clauseCount(), 1);
        is(8, "literalCount() of a contradictory formula", unsatisfiable.literalCount(), 0);
        is(9, "clause(0, false) of a contradictory formula", unsatisfiable.clause(0, false), 0);
    }

    private static void statusAndValue() {
        CnfPreprocessor x = formula(6, c(-1), c(2), c(4, -3), c(3, -4), c(3, 5, 6), c(-3, -5));
        x.apply(0);
        x.apply(8);
        x.eliminate(4);
        int[] statuses = {1, 1, 0, 3, 2, 0};
        int[] values = {0, 1, -1, 4, -1, -1};
        for (int v = 0; v < 6; v++) {
            is(11, "status(" + v + ")", x.status(v), statuses[v]);
            is(12, "value(" + v + ")", x.value(v), values[v]);
        }
        refuses(11, "status(6)", x, INDEX, () -> x.status(6));
        refuses(11, "status(-1)", x, INDEX, () -> x.status(-1));
        refuses(12, "value(6)", x, INDEX, () -> x.value(6));
        refuses(12, "value(-1)", x, INDEX, () -> x.value(-1));
        CnfPreprocessor opposite = formula(2, c(1, 2), c(-1, -2));
        opposite.apply(8);
        is(12, "value(1), substituted by a negative literal", opposite.value(1), 1);
        is(12, "value(0) of the representative", opposite.value(0), -1);
    }

    private static void occurrences() {
        CnfPreprocessor x = formula(3, c(1, 2), c(1, -2), c(-1, 2), c(1, 2));
        is(13, "occurrences(0)", x.occurrences(0), 3);
        is(13, "occurrences(1)", x.occurrences(1), 1);
        is(13, "occurrences(2)", x.occurrences(2), 3);
        is(13, "occurrences(3)", x.occurrences(3), 1);
        is(13, "occurrences(5)", x.occurrences(5), 0);
        refuses(13, "occurrences(6)", x, INDEX, () -> x.occurrences(6));
        refuses(13, "occurrences(-1)", x, INDEX, () -> x.occurrences(-1));
    }

    // ---- promises 14 to 17

    private static void text() {
        CnfPreprocessor x = new CnfPreprocessor();
        refuses(14, "append(128)", x, ARGUMENT, () -> x.append(128));
        refuses(14, "append(-1)", x, ARGUMENT, () -> x.append(-1));
        for (int i = 1; i <= 160; i++) {
            is(14, "append, byte " + i, x.append(i % 2 == 0 ? 127 : 0), i);
        }
        refuses(14, "append to a full text", x, STATE, () -> x.append(32));
        refuses(14, "append, both exceptions", x, ARGUMENT, () -> x.append(128));
        is(14, "append is not undoable: reset", x.reset(8), 8);
        is(14, "append is not undoable: undo()", x.undo(), 0);
        is(15, "clearText() of a full text", x.clearText(), 160);
        is(15, "clearText() of an empty text", x.clearText(), 0);
        is(15, "append after clearText()", x.append(48), 1);
        refuses(15, "undo(): clearText is not undoable", x, STATE, x::undo);
    }

    private static void reads(String text, int variables, int due, String list) {
        CnfPreprocessor x = new CnfPreprocessor();
        x.reset(variables);
        write(x, text);
        String what = "readClauses() of \"" + text.replace('\n', ';') + "\" with " + variables + " variables";
        long before = x.digest();
        is(16, what, x.readClauses(), due);
        outputIs(16, "after " + what, x, list);
        is(16, "clearText() after " + what, x.clearText(), text.length());
        if (due < 0) {
            write(x, text);
            is(16, "the state is unchanged after " + what, x.digest() == before, true);
            x.undo();
            refuses(16, "one more undo() after " + what, x, STATE, x::undo);
        } else {
            is(16, "undo() after " + what, x.undo(), 1);
            is(16, "originalCount() after undo() of " + what, x.originalCount(), 0);
        }
    }

    private static void readClauses() {
        reads("", 3, 0, "");
        reads(" \n ", 3, 0, "");
        reads("1 2 0 -3 0", 3, 2, "1 2 0;-3 0;");
        reads("\n3 -1\n\n0\n", 3, 1, "-1 3 0;");
        reads("2 2 -1 2 0", 3, 1, "-1 2 0;");
        reads("1 -1 0 2 0", 3, 1, "2 0;");
        reads("1 -1 0", 3, 0, "");
        reads("1 2 0 0 3 0", 3, 3, "0;");
        reads("0 0", 3, 2, "0;");
        reads("10 -10 9 0 -10 1 0", 10, 1, "1 -10 0;");
        reads("10 0", 9, -2, "");
        reads("11 0", 10, -2, "");
        reads("100 0", 10, -3, "");
        reads("9 0", 8, -1, "");
        reads("1 -4 0", 3, -4, "");
        reads("1 -20", 2, -5, "");
        reads("01 0", 3, -2, "");
        reads("00", 3, -2, "");
        reads("-0 0", 3, -2, "");
        reads("- 1 0", 3, -2, "");
        reads("--1 0", 3, -2, "");
        reads("1-2 0", 3, -2, "");
        reads("1 0-2 0", 3, -4, "");
        reads("1 0 -", 3, -6, "");
        reads("-", 3, -2, "");
        reads("1", 3, -2, "");
        reads("1 ", 3, -3, "");
        reads("1 -1", 3, -5, "");
        reads("1 0 2", 3, -6, "");
        reads("1 x 0", 3, -3, "");
        reads("1x 0", 3, -2, "");
        reads("1 0x", 3, -4, "");
        reads("+1 0", 3, -1, "");
        reads("1\t0", 3, -2, "");
        reads("1 / 0", 3, -3, "");
        reads("1 : 0", 3, -3, "");
        reads("0 ".repeat(32), 3, 32, "0;");
        reads("1 0 ".repeat(32), 3, 32, "1 0;".repeat(32));

        CnfPreprocessor x = new CnfPreprocessor();
        write(x, "0 ".repeat(33));
        refuses(16, "readClauses() of 33 clauses", x, STATE, x::readClauses);
        write(x, "0 ".repeat(80));
        refuses(16, "readClauses() of 80 clauses", x, STATE, x::readClauses);
        write(x, "0 ".repeat(79) + "x");
        is(16, "readClauses() of many clauses and an error", x.readClauses(), -159);
        CnfPreprocessor full = new CnfPreprocessor();
        write(full, "1 -1 0 ".repeat(20) + "1 0");
        full.generate(1, 31, 2);
        is(16, "readClauses(): clauses left out do not count", full.readClauses(), 1);
        refuses(16, "readClauses() beyond 32 clauses", full, STATE, full::readClauses);
        write(full, "x");
        is(16, "readClauses() of an error beside 32 clauses", full.readClauses(), -1);
        CnfPreprocessor stacked = formula(2, c(1, 2));
        write(stacked, "x");
        stacked.apply(5);
        refuses(16, "readClauses() of an error with a row in the stack", stacked, STATE, stacked::readClauses);
        CnfPreprocessor y = formula(2, c(-1, 2));
        y.eliminate(0);
        refuses(16, "readClauses() with a variable that is not active", y, STATE, y::readClauses);
        CnfPreprocessor z = formula(2, c());
        refuses(16, "readClauses() for a contradictory formula", z, STATE, z::readClauses);
        CnfPreprocessor nevertheless = new CnfPreprocessor();
        write(nevertheless, "1 0 0 2 3 0");
        is(16, "readClauses() with an empty clause", nevertheless.readClauses(), 3);
        is(16, "originalCount() with an empty clause", nevertheless.originalCount(), 3);
        is(16, "original(2, true) behind an empty clause", nevertheless.original(2, true), 6);
    }

    private static void outputByte() {
        CnfPreprocessor x = formula(10, c(10, -9, 1, -2), c(-10), c(9, 10));
        outputIs(17, "as a text", x, "1 -2 -9 10 0;-10 0;9 10 0;");
        is(17, "outputByte(0)", x.outputByte(0), '1');
        is(17, "outputByte(1)", x.outputByte(1), ' ');
        is(17, "outputByte(2)", x.outputByte(2), '-');
        is(17, "outputByte(12)", x.outputByte(12), 10);
        is(17, "outputByte(25), the last byte", x.outputByte(25), 10);
        is(17, "outputByte(26)", x.outputByte(26), -1);
        is(17, "outputByte(greatest int)", x.outputByte(Integer.MAX_VALUE), -1);
        refuses(17, "outputByte(-1)", x, ARGUMENT, () -> x.outputByte(-1));
        refuses(17, "outputByte(least int)", x, ARGUMENT, () -> x.outputByte(Integer.MIN_VALUE));
        CnfPreprocessor none = new CnfPreprocessor();
        is(17, "outputByte(0) without clauses", none.outputByte(0), -1);
        outputIs(17, "of a contradictory formula", formula(3, c(1), c()), "0;");
    }

    // ---- promise 18: the techniques one by one

    private static void units() {
        CnfPreprocessor x = formula(5, c(1, 2), c(-3), c(3, -1), c(-2, 4, 5), c(2));
        is(18, "units", x.apply(0), 3);
        outputIs(18, "after units", x, "4 5 0;");
        rowsAre(18, "after units", x, "-3 : -3;-1 : -1;2 : 2;");
        CnfPreprocessor y = formula(3, c(2, 3), c(1), c(-1), c(3));
        is(18, "units up to the contradiction", y.apply(0), 1);
        outputIs(18, "after contradictory units", y, "0;");
        rowsAre(18, "after contradictory units", y, "1 : 1;");
        is(18, "units of a contradictory formula", y.apply(0), 0);
        is(18, "status(2) after the contradiction", y.status(2), 0);
    }

    private static void pureLiterals() {
        CnfPreprocessor x = formula(5, c(1, 2), c(-1, 3), c(-3, -2), c(4, -3), c(-4, 1, 3));
        is(18, "pure literals, none", x.apply(1), 0);
        CnfPreprocessor y = formula(4, c(-1, 2), c(1, 3), c(-3, 4), c(-2, 1));
        is(18, "pure literals", y.apply(1), 2);
        rowsAre(18, "after pure literals", y, "4 : 4;3 : 3;");
        outputIs(18, "after pure literals", y, "-1 2 0;1 -2 0;");
        CnfPreprocessor two = formula(4, c(1, -4), c(-1, -3), c(1, 4));
        is(18, "two pure literals", two.apply(1), 2);
        rowsAre(18, "after two pure literals", two, "-3 : -3;1 : 1;");
    }

    private static void subsumption() {
        CnfPreprocessor x = formula(4, c(1, 2, 3), c(1, 2), c(-1, 2), c(1, 2), c(1, 2, 4), c(-1, 2, 3), c(3, 4));
        is(18, "subsumption", x.apply(2), 4);
        outputIs(18, "after subsumption", x, "1 2 0;-1 2 0;3 4 0;");
        is(18, "subsumption again", x.apply(2), 0);
        is(18, "rowCount() after subsumption", x.rowCount(), 0);
    }

    private static void strengthening() {
        CnfPreprocessor x = formula(4, c(1, 2, 3), c(-1, 2), c(-2, 3), c(3, 4, -1));
        is(18, "strengthening", x.apply(3), 2);
        outputIs(18, "after strengthening", x, "3 0;-1 2 0;-2 3 0;-1 3 4 0;");
        CnfPreprocessor y = formula(3, c(1, 2), c(-1, 2), c(1, -2), c(-1, -2));
        is(18, "strengthening up to the contradiction", y.apply(3), 4);
        outputIs(18, "after contradictory strengthening", y, "0;");
        CnfPreprocessor z = formula(2, c(1, 2), c(-1), c(-2));
        is(18, "strengthening: the lowest literal first", z.apply(3), 2);
        CnfPreprocessor lowest = formula(3, c(1, 2), c(-1, 2), c(1, -2));
        is(18, "strengthening: of the first clause the lowest literal", lowest.apply(3), 3);
        outputIs(18, "after strengthening the lowest literal", lowest, "2 0;2 0;1 0;");
    }

    private static void elimination() {
        CnfPreprocessor x = formula(4, c(1, 2), c(1, 3), c(-1, -3), c(2, 4), c(-2, -4));
        is(18, "elimination", x.apply(4), 3);
        rowsAre(18, "after elimination", x, "1 2 : 1;1 3 : 1;2 4 : 2;2 -3 : 2;");
        is(18, "clauseCount() after elimination", x.clauseCount(), 0);
        CnfPreprocessor cheapest = formula(4, c(1, 2), c(-1, 3), c(2, 3), c(2, 3, 4));
        is(18, "elimination: the cheapest variable first", cheapest.apply(4), 2);
        rowsAre(18, "after the cheapest variables", cheapest, "1 2 : 2;2 3 : 2;2 3 4 : 2;");
        is(18, "status(0) after the cheapest variables", cheapest.status(0), 2);
        is(18, "status(2) after the cheapest variables", cheapest.status(2), 0);
        CnfPreprocessor y = formula(2, c(1, 2), c(-1, 2), c(1, -2), c(-1, -2));
        is(18, "elimination up to the contradiction", y.apply(4), 2);
        outputIs(18, "after contradictory elimination", y, "0;");
        rowsAre(18, "after contradictory elimination", y, "1 2 : 1;1 -2 : 1;2 : 2;");
        is(18, "status(1) after contradictory elimination", y.status(1), 2);
    }

    private static void blockedClauses() {
        CnfPreprocessor x = formula(3, c(1, 2), c(-1, -2, 3), c(-3, 1), c(2, -3));
        is(27, "blockingLiteral(0)", x.blockingLiteral(0), 0);
        CnfPreprocessor none = formula(2, c(1, 2), c(-1, 2), c(1, -2), c(-1, -2));
        is(27, "blockingLiteral(0) of a clause that is not blocked", formula(2, c(1), c(-1)).blockingLiteral(0), -1);
        is(27, "blockingLiteral(1): a later literal", formula(3, c(-1, 3), c(1, 2)).blockingLiteral(1), 2);
        is(27, "blockingLiteral(0): both literals are opposed", none.blockingLiteral(0), -1);
        is(27, "blockingLiteral(0) of the empty clause", formula(2, c()).blockingLiteral(0), -1);
        refuses(27, "blockingLiteral(4)", x, INDEX, () -> x.blockingLiteral(4));
        refuses(27, "blockingLiteral(-1)", x, INDEX, () -> x.blockingLiteral(-1));
        CnfPreprocessor y = formula(3, c(1, 2), c(-1, 3), c(-2, -1), c(-3, 1));
        is(18, "blocked clauses", y.apply(5), 4);
        rowsAre(18, "after blocked clauses", y, "1 2 : 2;-1 3 : -1;-1 -2 : -2;1 -3 : 1;");
        is(18, "blocked clauses of what is left", y.apply(5), 0);
        CnfPreprocessor order = formula(3, c(1), c(-1), c(2, 3), c(-2, -3));
        is(18, "blocked clauses beside others", order.apply(5), 2);
        rowsAre(18, "after blocked clauses beside others", order, "2 3 : 2;-2 -3 : -2;");
        outputIs(18, "after blocked clauses beside others", order, "1 0;-1 0;");
    }

    private static void coveredClauses() {
        // Both clauses with -2 contain 4, which joins the first clause; then 4 has no partner.
        CnfPreprocessor x = formula(4, c(1, 2), c(-1, 3), c(-2, 4), c(-3, -2, 4), c(-4, -1, 3), c(-3, -1, 2));
        is(28, "coverPairs(0)", x.coverPairs(0), 2);
        is(29, "extension(0, true)", x.extension(0, true), 11);
        is(29, "extension(0, false)", x.extension(0, false), 0);
        is(29, "extension(1, true) without another call before", formula(2, c(1), c(2)).extension(1, true), 2);
        CnfPreprocessor not = formula(2, c(1), c(-1));
        is(28, "coverPairs(0) of a clause that is not covered", not.coverPairs(0), -1);
        is(29, "extension(0, true) of a clause that is not covered", not.extension(0, true), 1);
        CnfPreprocessor grown = formula(3, c(1), c(-1, 2), c(-2));
        is(28, "coverPairs(0): the clause grows, but is not covered", grown.coverPairs(0), -1);
        is(29, "extension(0, true): the clause grows, but is not covered", grown.extension(0, true), 3);
        is(28, "coverPairs(0) of the empty clause", formula(2, c()).coverPairs(0), -1);
        is(29, "extension(0, true) of the empty clause", formula(2, c()).extension(0, true), 0);
        refuses(28, "coverPairs(6)", x, INDEX, () -> x.coverPairs(6));
        refuses(28, "coverPairs(-1)", x, INDEX, () -> x.coverPairs(-1));
        refuses(29, "extension(6, true)", x, INDEX, () -> x.extension(6, true));
        refuses(29, "extension(-1, true)", x, INDEX, () -> x.extension(-1, true));
        CnfPreprocessor y = formula(5, c(1, 2), c(-1, -2, 3), c(2, 3, -4), c(4, 5), c(1, -5));
        is(18, "covered clauses", y.apply(6), 5);
        rowsAre(18, "after covered clauses", y, "1 2 : 1;-1 -2 3 : -1;-1 -2 3 -5 : -2;-1 -2 3 -4 -5 : 3;"
                + "2 3 -4 : 2;4 5 : 4;1 -5 : 1;");
    }

    private static void failedLiterals() {
        CnfPreprocessor x = formula(4, c(1, 2), c(1, -2), c(-1, 3), c(-3, 4, 2));
        is(18, "failed literals", x.apply(7), 1);
        rowsAre(18, "after failed literals", x, "1 : 1;3 : 3;");
        outputIs(18, "after failed literals", x, "2 4 0;");
        is(18, "total(7) after failed literals", x.total(7), 1);
        is(18, "total(0) after failed literals", x.total(0), 0);
        CnfPreprocessor y = formula(2, c(1, 2), c(1, -2), c(-1, 2), c(-1, -2));
        is(18, "failed literals up to the contradiction", y.apply(7), 1);
        outputIs(18, "after contradictory failed literals", y, "0;");
        rowsAre(18, "after contradictory failed literals", y, "-1 : -1;2 : 2;");
    }

    private static void equivalences() {
        CnfPreprocessor x = formula(5, c(-2, 1), c(-1, 3), c(-3, 2), c(4, 2), c(-4, -2), c(3, 4, 5), c(1, 2, 5));
        is(18, "equivalences", x.apply(8), 3);
        rowsAre(18, "after equivalences", x,
                "-1 2 : 2;1 -2 : -2;-1 3 : 3;1 -3 : -3;1 4 : 4;-1 -4 : -4;");
        outputIs(18, "after equivalences", x, "1 5 0;");
        is(18, "status(3) after equivalences", x.status(3), 3);
        is(12, "value(3) after equivalences", x.value(3), 1);
        is(18, "equivalences again", x.apply(8), 0);
        CnfPreprocessor oneWay = formula(3, c(1, 2), c(1, -2), c(1, 3));
        is(18, "equivalences: one way between both literals of a variable", oneWay.apply(8), 0);
        is(18, "contradictory() after one way", oneWay.contradictory(), false);
        CnfPreprocessor y = formula(3, c(1, 2), c(1, -2), c(-1, 3), c(-1, -3), c(2, 3));
        is(18, "equivalences: both literals of a variable", y.apply(8), 0);
        outputIs(18, "after contradictory equivalences", y, "0;");
        is(18, "rowCount() after contradictory equivalences", y.rowCount(), 0);
        is(18, "status(0) after contradictory equivalences", y.status(0), 0);
    }

    private static void vivification() {
        CnfPreprocessor x = formula(5, c(1, 2, 3), c(1, 2), c(-4, 1, 5), c(4), c(3, 4, 5));
        is(30, "vivified(0, true): a shorter clause fails", x.vivified(0, true), 3);
        is(30, "vivified(1, true)", x.vivified(1, true), 3);
        is(30, "vivified(2, true): a false literal is left out", x.vivified(2, true), 17);
        is(30, "vivified(2, false): a false literal is left out", x.vivified(2, false), 0);
        is(30, "vivified(3, true): a clause with one literal", x.vivified(3, true), 8);
        is(30, "vivified(4, true): a true literal ends it", x.vivified(4, true), 12);
        refuses(30, "vivified(5, true)", x, INDEX, () -> x.vivified(5, true));
        refuses(30, "vivified(-1, true)", x, INDEX, () -> x.vivified(-1, true));
        long before = x.digest();
        x.vivified(0, false);
        is(30, "the state is unchanged after vivified", x.digest() == before, true);
        is(18, "vivification", x.apply(9), 3);
        outputIs(18, "after vivification", x, "1 2 0;1 2 0;1 5 0;4 0;3 4 0;");
        CnfPreprocessor equal = formula(3, c(1, 2, -3), c(1, 2, -3));
        is(30, "vivified(0, true): an equal clause counts", equal.vivified(0, true), 3);
        is(30, "vivified(0, false): an equal clause counts", equal.vivified(0, false), 4);
        CnfPreprocessor fails = formula(3, c(2, 3), c(1), c(-1));
        is(30, "vivified(0, true) if the first propagation fails", fails.vivified(0, true), 0);
        is(18, "vivification if the first propagation fails", fails.apply(9), 0);
        outputIs(18, "after vivification fails", fails, "0;");
        CnfPreprocessor counts = formula(3, c(1, 2, 3), c(-1, 3), c(-1), c(-2), c(-3));
        is(30, "vivified(0, true) if all literals are false", counts.vivified(0, true), 0);
        is(18, "vivification if all literals are false", counts.apply(9), 3);
        outputIs(18, "after vivification with false literals", counts, "0;");
        is(30, "vivified(0, true) of the empty clause", counts.vivified(0, true), 0);
        CnfPreprocessor later = formula(4, c(1, 2, 3), c(-1), c(4, 3), c(2), c(-2));
        is(18, "vivification: the first propagation of the first clause fails", later.apply(9), 0);
    }

    /** A formula whose covered clauses fill the stack before all of them are removed. */
    private static void fullStack() {
        CnfPreprocessor x = new CnfPreprocessor();
        x.reset(10);
        x.setGrowth(8);
        x.generate(1094297355, 32, 3);
        x.eliminate(2);
        x.apply(6);
        is(18, "rowCount() of a full stack", x.rowCount(), 120);
        is(18, "clauseCount() beside a full stack", x.clauseCount(), 6);
        is(18, "blocked clauses beside a full stack", x.apply(5), 0);
        is(18, "covered clauses beside a full stack", x.apply(6), 0);
        boolean someBlocked = false;
        boolean someCovered = false;
        for (int i = 0; i < x.clauseCount(); i++) {
            someBlocked |= x.blockingLiteral(i) != -1;
            someCovered |= x.coverPairs(i) != -1;
        }
        is(27, "a clause is blocked beside a full stack", someBlocked, true);
        is(28, "a clause is covered beside a full stack", someCovered, true);
        for (int v = 0; v < 10; v++) {
            boolean expected = x.status(v) == 0 && x.occurrences(2 * v) == 0 && x.occurrences(2 * v + 1) > 0;
            is(24, "canEliminate(" + v + ") beside a full stack", x.canEliminate(v), expected);
        }
        is(18, "pure literals beside a full stack", x.apply(1), 2);
        is(35, "rowCount() beyond 120", x.rowCount(), 122);
        for (int i = 0; i < 1024; i += 11) {
            if (x.extend(i) != -1) {
                is(37, "unsatisfied(extend(" + i + ")) with a full stack", x.unsatisfied(x.extend(i)), 0);
            }
        }
    }

    // ---- promises 18 to 24

    private static void applyAndTotal() {
        CnfPreprocessor x = formula(4, c(1, 2), c(1), c(-1, 3, 4));
        refuses(18, "apply(10)", x, ARGUMENT, () -> x.apply(10));
        refuses(18, "apply(-1)", x, ARGUMENT, () -> x.apply(-1));
        is(18, "apply(2)", x.apply(2), 1);
        is(18, "apply(3)", x.apply(3), 1);
        is(22, "total(2)", x.total(2), 1);
        is(22, "total(3)", x.total(3), 1);
        is(18, "apply(0)", x.apply(0), 1);
        is(22, "total(0)", x.total(0), 1);
        is(18, "apply(0) without effect", x.apply(0), 0);
        is(18, "undo() of a technique without effect", x.undo(), 5);
        is(22, "total(0) after undo()", x.total(0), 1);
        x.undo();
        is(22, "total(0) after one more undo()", x.total(0), 0);
        is(22, "total(3) after one more undo()", x.total(3), 1);
        refuses(22, "total(10)", x, ARGUMENT, () -> x.total(10));
        refuses(22, "total(-1)", x, ARGUMENT, () -> x.total(-1));
    }

    private static void runs(String schedule, int rounds, int due) {
        CnfPreprocessor x = formula(4, c(1, 2), c(-1, 2), c(-2, 3), c(-3, 4, 1));
        write(x, schedule);
        long before = x.digest();
        is(19, "run(" + rounds + ") of \"" + schedule.replace('\n', ';') + "\"", x.run(rounds), due);
        if (due < 0) {
            is(19, "the state is unchanged after a syntax error", x.digest() == before, true);
        }
        is(19, "clearText() after run", x.clearText(), schedule.length());
    }

    private static void run() {
        runs("", 1, -1);
        runs(" \n", 1, -3);
        runs("u", 1, 1);
        runs("u", 9, 1);
        runs(" t\nu ", 9, 2);
        runs("t", 9, 2);
        runs("t", 1, 1);
        runs("tx", 1, -2);
        runs("t U", 1, -3);
        runs("tus" + "u".repeat(17), 1, 1);
        runs("tus" + "u".repeat(17) + " \n", 1, 1);
        runs("tus" + "u".repeat(18), 1, -21);
        runs("tus" + "u".repeat(17) + " x", 1, -22);
        runs("upstebcfqv", 2, 2);
        CnfPreprocessor x = formula(4, c(1, 2), c(-1, 2), c(-2, 3), c(-3, 4, 1));
        write(x, "tu");
        refuses(19, "run(0)", x, ARGUMENT, () -> x.run(0));
        refuses(19, "run(10)", x, ARGUMENT, () -> x.run(10));
        is(19, "run(9)", x.run(9), 2);
        is(19, "total(3) after run", x.total(3), 3);
        is(19, "total(0) after run", x.total(0), 2);
        is(19, "undo() after run: one saved state for all rounds", x.undo(), 5);
        is(19, "clauseCount() after undo()", x.clauseCount(), 4);
        write(x, "z");
        refuses(19, "run(0), a syntax error, too", x, ARGUMENT, () -> x.run(0));
        CnfPreprocessor y = formula(2, c(1, 2), c(-1, 2), c(1, -2), c(-1, -2));
        write(y, "q v t u");
        is(19, "run(5) up to the contradiction", y.run(5), 1);
        is(19, "contradictory() after run", y.contradictory(), true);
        is(19, "run(5) of a contradictory formula", y.run(5), 1);
        CnfPreprocessor longer = formula(4, c(4), c(-4, 3), c(1, 2), c(-1, 2), c(-3, -2, 1));
        write(longer, "u");
        is(19, "run(1): the last round is played, too", longer.run(1), 1);
        is(19, "total(0): the last round is played, too", longer.total(0), 2);
        CnfPreprocessor zeroBoth = formula(2, c(1, 2), c(1, -2), c(-1, 2), c(-1, -2));
        write(zeroBoth, "q");
        is(19, "run(3): the result is 0 and the formula contradictory", zeroBoth.run(3), 1);
    }

    private static void eliminate() {
        CnfPreprocessor x = formula(4, c(1, 2), c(3, 4), c(-1, 3), c(1, -3), c(-1, -2, 4));
        is(20, "eliminate(0)", x.eliminate(0), 2);
        outputIs(20, "after eliminate(0)", x, "3 4 0;2 3 0;-2 -3 4 0;");
        rowsAre(20, "after eliminate(0)", x, "1 2 : 1;1 -3 : 1;");
        is(20, "total(4) after eliminate", x.total(4), 1);
        is(20, "status(0) after eliminate", x.status(0), 2);
        refuses(20, "eliminate(0) again", x, STATE, () -> x.eliminate(0));
        refuses(20, "eliminate(4)", x, INDEX, () -> x.eliminate(4));
        refuses(20, "eliminate(-1)", x, INDEX, () -> x.eliminate(-1));
        is(20, "undo() of eliminate", x.undo(), 5);
        is(20, "total(4) after undo()", x.total(4), 0);
        CnfPreprocessor absent = formula(3, c(1, 2));
        refuses(20, "eliminate(2) of a variable that does not occur", absent, STATE, () -> absent.eliminate(2));
        CnfPreprocessor y = formula(3, c(1), c(-1), c(2, 3));
        is(20, "eliminate(0) with an empty resolvent", y.eliminate(0), 1);
        outputIs(20, "after an empty resolvent", y, "0;");
        is(20, "status(0) after an empty resolvent", y.status(0), 2);
        rowsAre(20, "after an empty resolvent", y, "1 : 1;");
        is(24, "canEliminate(1) of a contradictory formula", y.canEliminate(1), false);
    }

    private static void growth() {
        // Variable 0 has 3 * 3 resolvents, but occurs in 6 clauses.
        CnfPreprocessor x = formula(7, c(1, 2), c(1, 3), c(1, 4), c(-1, 5), c(-1, 6), c(-1, 7));
        is(25, "resolventCount(0)", x.resolventCount(0), 9);
        is(24, "canEliminate(0) without growth", x.canEliminate(0), false);
        is(21, "setGrowth(2)", x.setGrowth(2), 0);
        is(24, "canEliminate(0) with growth 2", x.canEliminate(0), false);
        refuses(20, "eliminate(0) with growth 2", x, STATE, () -> x.eliminate(0));
        is(21, "setGrowth(3)", x.setGrowth(3), 2);
        is(24, "canEliminate(0) with growth 3", x.canEliminate(0), true);
        is(24, "canEliminate(1)", x.canEliminate(1), true);
        refuses(21, "setGrowth(9)", x, ARGUMENT, () -> x.setGrowth(9));
        refuses(21, "setGrowth(-1)", x, ARGUMENT, () -> x.setGrowth(-1));
        x.setGrowth(7);
        is(21, "undo() of setGrowth", x.undo(), 5);
        is(21, "setGrowth(3) after undo()", x.setGrowth(3), 3);
        x.undo();
        x.undo();
        is(21, "setGrowth(8)", x.setGrowth(8), 2);
        is(21, "setGrowth(8) again", x.setGrowth(8), 8);
        refuses(24, "canEliminate(7)", x, INDEX, () -> x.canEliminate(7));
        refuses(24, "canEliminate(-1)", x, INDEX, () -> x.canEliminate(-1));
        x.eliminate(1);
        is(24, "canEliminate(1) of an eliminated variable", x.canEliminate(1), false);
        CnfPreprocessor absent = formula(3, c(1, 2));
        is(24, "canEliminate(2) of a variable that does not occur", absent.canEliminate(2), false);
        is(24, "canEliminate(1) of a variable with one literal", absent.canEliminate(1), true);
        fullListOfClauses();
    }

    private static void fullListOfClauses() {
        CnfPreprocessor x = fullList();
        is(7, "clauseCount() of a full list", x.clauseCount(), 48);
        is(25, "resolventCount(2) beside a full list", x.resolventCount(2), 6);
        is(24, "canEliminate(2) beside a full list", x.canEliminate(2), false);
        refuses(20, "eliminate(2) beside a full list", x, STATE, () -> x.eliminate(2));
        x.undo();
        is(7, "clauseCount() before the last elimination", x.clauseCount(), 40);
        is(24, "canEliminate(2) as long as the list is not full", x.canEliminate(2), true);
        is(20, "eliminate(1) that fills the list", x.eliminate(1), 16);
    }

    private static void undo() {
        CnfPreprocessor x = new CnfPreprocessor();
        x.reset(4);
        for (int i = 0; i < 12; i++) {
            x.addClause(i + 1, 0);
        }
        write(x, "abc");
        is(23, "undo(), 5 states are left", x.undo(), 5);
        is(23, "clearText(): undo leaves the text", x.clearText(), 3);
        is(23, "originalCount() after undo()", x.originalCount(), 11);
        is(23, "addClause after undo()", x.addClause(15, 0), 12);
        is(23, "original(11, true) after undo()", x.original(11, true), 15);
        for (int left = 5; left >= 0; left--) {
            is(23, "undo(), " + left + " states are left", x.undo(), left);
            is(23, "originalCount() after undo()", x.originalCount(), 6 + left);
        }
        refuses(23, "undo() without a saved state", x, STATE, x::undo);
        CnfPreprocessor y = formula(6, c(1), c(2, 3), c(-2, -3), c(4, 5), c(-4, 5), c(6, 1));
        long before = y.digest();
        write(y, "uqptebcfv");
        y.run(3);
        is(23, "undo() of a whole run", y.undo(), 5);
        y.clearText();
        is(23, "status(0) after undo() of a whole run", y.status(0), 0);
        is(23, "value(0) after undo() of a whole run", y.value(0), -1);
        is(23, "rowCount() after undo() of a whole run", y.rowCount(), 0);
        is(23, "digest() after undo() of a whole run, but for one saved state", y.digest(), before - 1);
    }

    // ---- promises 25 to 34

    private static void resolvents() {
        CnfPreprocessor x = formula(4, c(1, 2), c(-1, 3), c(1, 3), c(-1, -2, 4), c(1, 2, 3), c(2, 4));
        is(25, "resolventCount(0)", x.resolventCount(0), 3);
        int[][] due = {{6, 0}, {4, 0}, {12, 2}};
        for (int i = 0; i < 3; i++) {
            is(26, "resolvent(0, " + i + ", true)", x.resolvent(0, i, true), due[i][0]);
            is(26, "resolvent(0, " + i + ", false)", x.resolvent(0, i, false), due[i][1]);
        }
        refuses(26, "resolvent(0, 3, true)", x, INDEX, () -> x.resolvent(0, 3, true));
        refuses(26, "resolvent(0, -1, true)", x, INDEX, () -> x.resolvent(0, -1, true));
        refuses(26, "resolvent(4, 0, true)", x, INDEX, () -> x.resolvent(4, 0, true));
        refuses(26, "resolvent(-1, 0, true)", x, INDEX, () -> x.resolvent(-1, 0, true));
        refuses(25, "resolventCount(4)", x, INDEX, () -> x.resolventCount(4));
        refuses(25, "resolventCount(-1)", x, INDEX, () -> x.resolventCount(-1));
        is(25, "resolventCount(3) of a variable with one literal", x.resolventCount(3), 0);
        x.eliminate(0);
        refuses(25, "resolventCount(0) of an eliminated variable", x, STATE, () -> x.resolventCount(0));
        refuses(26, "resolvent(0, 0, true) of an eliminated variable", x, STATE, () -> x.resolvent(0, 0, true));
        refuses(26, "resolvent(0, 99, true) of an eliminated variable", x, STATE, () -> x.resolvent(0, 99, true));
        CnfPreprocessor y = formula(3, c(1), c(-1));
        is(25, "resolventCount(0) with an empty resolvent", y.resolventCount(0), 1);
        is(26, "resolvent(0, 0, true), an empty one", y.resolvent(0, 0, true), 0);
        is(25, "resolventCount(2) of a variable that does not occur", y.resolventCount(2), 0);
    }

    private static void propagation() {
        CnfPreprocessor x = formula(5, c(-1, 2), c(-2, -3), c(3, 4, -1), c(5, -4, 3), c(-5, -4, 3, 2));
        is(32, "propagate(0)", x.propagate(0), 1 | 1 << 2 | 1 << 5 | 1 << 6 | 1 << 8);
        is(32, "propagate(4)", x.propagate(4), 1 << 4 | 1 << 3 | 1 << 1);
        is(32, "propagate(8)", x.propagate(8), 1 << 8);
        refuses(32, "propagate(10)", x, INDEX, () -> x.propagate(10));
        refuses(32, "propagate(-1)", x, INDEX, () -> x.propagate(-1));
        CnfPreprocessor units = formula(3, c(1), c(-1, 2));
        is(32, "propagate(4): units count", units.propagate(4), 1 | 4 | 16);
        is(32, "propagate(3) that fails", units.propagate(3), -1);
        units.apply(0);
        refuses(32, "propagate(1) of a fixed variable", units, STATE, () -> units.propagate(1));
        is(32, "propagate(4) over no clause", units.propagate(4), 16);
        is(32, "propagate(0) over the empty clause", formula(2, c()).propagate(0), -1);
        CnfPreprocessor y = formula(4, c(1, 2, 3), c(1, 2), c(3, 4), c(3, 4));
        is(31, "implied(0): a subset", y.implied(0), true);
        is(31, "implied(1)", y.implied(1), false);
        is(31, "implied(2): an equal clause", y.implied(2), true);
        CnfPreprocessor chain = formula(4, c(1, -4), c(-2, 1), c(-3, 2), c(-4, 3));
        is(31, "implied(0): a chain", chain.implied(0), true);
        is(31, "implied(1): a chain", chain.implied(1), false);
        is(31, "implied(0) of the empty clause", formula(2, c()).implied(0), false);
        refuses(31, "implied(4)", y, INDEX, () -> y.implied(4));
        refuses(31, "implied(-1)", y, INDEX, () -> y.implied(-1));
    }

    private static void implications() {
        CnfPreprocessor x = formula(6, c(-1, 2), c(-2, 3), c(-3, 1), c(-4, -3), c(4, 1), c(5), c(5, 6, 1));
        is(33, "reachable(0, 4)", x.reachable(0, 4), true);
        is(33, "reachable(5, 1)", x.reachable(5, 1), true);
        is(33, "reachable(0, 1)", x.reachable(0, 1), false);
        is(33, "reachable(6, 3)", x.reachable(6, 3), true);
        is(33, "reachable(4, 2): through literal 0", x.reachable(4, 2), true);
        is(33, "reachable(10, 10)", x.reachable(10, 10), true);
        is(33, "reachable(9, 8): a clause of one literal is no implication", x.reachable(9, 8), false);
        is(33, "reachable(9, 10): a clause of three literals is no implication", x.reachable(9, 10), false);
        refuses(33, "reachable(12, 0)", x, INDEX, () -> x.reachable(12, 0));
        refuses(33, "reachable(0, 12)", x, INDEX, () -> x.reachable(0, 12));
        refuses(33, "reachable(-1, 0)", x, INDEX, () -> x.reachable(-1, 0));
        refuses(33, "reachable(0, -1)", x, INDEX, () -> x.reachable(0, -1));
        int[] due = {0, 1, 0, 1, 0, 1, 1, 0, 8, 9, 10, 11};
        for (int literal = 0; literal < 12; literal++) {
            is(34, "representative(" + literal + ")", x.representative(literal), due[literal]);
        }
        refuses(34, "representative(12)", x, INDEX, () -> x.representative(12));
        refuses(34, "representative(-1)", x, INDEX, () -> x.representative(-1));
        x.apply(8);
        is(34, "representative(2) of a substituted variable", x.representative(2), 2);
        CnfPreprocessor oneWay = formula(2, c(-1, 2));
        is(33, "reachable(0, 2), one way", oneWay.reachable(0, 2), true);
        is(33, "reachable(2, 0), one way", oneWay.reachable(2, 0), false);
        is(34, "representative(2), one way", oneWay.representative(2), 2);
    }

    // ---- promises 35 to 40

    private static void rows() {
        CnfPreprocessor x = formula(4, c(1, -2), c(-1, 3), c(4));
        is(35, "rowCount() at first", x.rowCount(), 0);
        x.apply(0);
        x.eliminate(0);
        is(35, "rowCount()", x.rowCount(), 2);
        int[][] due = {{8, 0, 6}, {1, 2, 0}};
        for (int i = 0; i < 2; i++) {
            for (int what = 0; what < 3; what++) {
                is(36, "row(" + i + ", " + what + ")", x.row(i, what), due[i][what]);
            }
        }
        refuses(36, "row(2, 0)", x, INDEX, () -> x.row(2, 0));
        refuses(36, "row(-1, 0)", x, INDEX, () -> x.row(-1, 0));
        refuses(36, "row(0, 3)", x, ARGUMENT, () -> x.row(0, 3));
        refuses(36, "row(0, -1)", x, ARGUMENT, () -> x.row(0, -1));
        refuses(36, "row(2, 3), both exceptions", x, INDEX, () -> x.row(2, 3));
    }

    private static void extendAndSolve() {
        CnfPreprocessor x = formula(4, c(1, -2), c(-1, 3), c(4));
        is(37, "extend(8)", x.extend(8), 8);
        is(37, "extend(0)", x.extend(0), -1);
        x.apply(0);
        is(37, "extend(0) with a fixed variable", x.extend(0), 8);
        x.eliminate(0);
        is(37, "extend(2)", x.extend(2), -1);
        is(37, "extend(6): the row changes variable 0", x.extend(6), 15);
        is(37, "extend(4)", x.extend(4), 12);
        is(37, "extend(13): only active variables matter", x.extend(13), 12);
        refuses(37, "extend(16)", x, ARGUMENT, () -> x.extend(16));
        refuses(37, "extend(-1)", x, ARGUMENT, () -> x.extend(-1));
        is(38, "solve()", x.solve(), 8);
        CnfPreprocessor y = formula(3, c(2, 3), c(-2, 1), c(-3, -1));
        is(38, "solve(): the smallest assignment", y.solve(), 3);
        y.addClause(0, 1);
        is(38, "solve() with one more clause", y.solve(), 4);
        y.addClause(1, 0);
        is(38, "solve() without a solution", y.solve(), -1);
        is(38, "solve() without clauses", new CnfPreprocessor().solve(), 0);
        CnfPreprocessor falseWitness = formula(3, c(-1, 2), c(1, 3), c(-2, 3, 1));
        falseWitness.apply(5);
        is(37, "extend(0) after blocked clauses", falseWitness.unsatisfied(falseWitness.extend(0)), 0);
        CnfPreprocessor order = formula(2, c(1, 2), c(-1, -2));
        order.apply(8);
        is(38, "solve() with substituted variables", order.solve(), 2);
        is(37, "extend(1) with substituted variables", order.extend(1), 1);
        CnfPreprocessor inactive = formula(3, c(1), c(2, 3));
        inactive.apply(0);
        is(38, "solve(): smallest among the active variables", inactive.solve(), 3);
        is(37, "extend(0) of a contradictory formula", formula(1, c()).extend(0), -1);
    }

    private static void modelsAndUnsatisfied() {
        CnfPreprocessor x = formula(3, c(1, 2), c(-1), c(-2, 3));
        is(39, "unsatisfied(0)", x.unsatisfied(0), 1);
        is(39, "unsatisfied(3)", x.unsatisfied(3), 2);
        is(39, "unsatisfied(6)", x.unsatisfied(6), 0);
        refuses(39, "unsatisfied(8)", x, ARGUMENT, () -> x.unsatisfied(8));
        refuses(39, "unsatisfied(-1)", x, ARGUMENT, () -> x.unsatisfied(-1));
        is(40, "models(true)", x.models(true), 1);
        is(40, "models(false)", x.models(false), 1);
        x.apply(1);
        is(39, "unsatisfied(0) after a technique", x.unsatisfied(0), 1);
        CnfPreprocessor y = formula(3, c(1, 2), c(-1, 3));
        is(40, "models(true) of 2 clauses", y.models(true), 4);
        y.eliminate(0);
        is(40, "models(true) after eliminate", y.models(true), 4);
        is(40, "models(false) after eliminate", y.models(false), 3);
        y.apply(5);
        is(40, "models(false) after a blocked clause", y.models(false), 4);
        CnfPreprocessor all = formula(1, c(1));
        all.apply(0);
        is(40, "models(false) without active variables", all.models(false), 1);
        is(40, "models(true) without active variables", all.models(true), 1);
        CnfPreprocessor none = formula(1, c());
        is(40, "models(true) of the empty clause", none.models(true), 0);
        is(40, "models(false) of the empty clause", none.models(false), 0);
        CnfPreprocessor ten = new CnfPreprocessor();
        ten.reset(10);
        is(40, "models(true) of 10 variables", ten.models(true), 1024);
    }

    // ---- promises 41 to 43

    private static void predictions() {
        CnfPreprocessor x = formula(4, c(1, 2), c(-1, 2), c(-2, 3), c(-3, 4, 1), c(2, 3, 4));
        for (int technique = 0; technique < 10; technique++) {
            long before = x.digest();
            int literals = x.predict(technique, true);
            int clauses = x.predict(technique, false);
            is(41, "the state is unchanged after predict(" + technique + ")", x.digest() == before, true);
            x.apply(technique);
            is(41, "predict(" + technique + ", true)", literals, x.literalCount());
            is(41, "predict(" + technique + ", false)", clauses, x.clauseCount());
            x.undo();
        }
        is(41, "predict(3, true)", x.predict(3, true), 9);
        refuses(41, "predict(10, true)", x, ARGUMENT, () -> x.predict(10, true));
        refuses(41, "predict(-1, false)", x, ARGUMENT, () -> x.predict(-1, false));
        is(42, "bestTechnique() without clauses", new CnfPreprocessor().bestTechnique(), 0);
        is(42, "bestTechnique() of a contradictory formula", formula(2, c()).bestTechnique(), 0);
        CnfPreprocessor pure = formula(3, c(1, 2), c(-2, 3));
        is(42, "bestTechnique(): the lowest of several", pure.bestTechnique(), 1);
        // Units leave a clause without literals, pure literals none at all.
        CnfPreprocessor clash = formula(3, c(1), c(-1));
        is(41, "predict(0, false) of a contradiction", clash.predict(0, false), 1);
        is(42, "bestTechnique() of units that clash", clash.bestTechnique(), 0);
        CnfPreprocessor fewer = formula(2, c(1, 2), c(1, -2), c(-1, 2), c(-1, -2));
        long before = fewer.digest();
        is(42, "bestTechnique() of a contradiction that strengthening finds", fewer.bestTechnique(), 3);
        is(42, "the state is unchanged after bestTechnique()", fewer.digest() == before, true);
        // Strengthening leaves 32 literals in 23 clauses, subsumption 69 in 21.
        is(42, "bestTechnique(): literals come before clauses", bestOf(6, 23765, 16, 3, 15677, 7, 4), 3);
        // Strengthening leaves 72 literals in 27 clauses, the removal of covered clauses 72 in 24.
        is(42, "bestTechnique(): clauses decide between equals", bestOf(9, 41076, 18, 3, 51617, 9, 3), 6);
    }

    private static int bestOf(int variables, int... generated) {
        CnfPreprocessor x = new CnfPreprocessor();
        x.reset(variables);
        for (int i = 0; i + 2 < generated.length; i += 3) {
            x.generate(generated[i], generated[i + 1], generated[i + 2]);
        }
        return x.bestTechnique();
    }

    private static long digestOf(CnfPreprocessor x, int variables, int growth, int length, int saved) {
        long h = 3079;
        h = 31 * h + variables;
        h = 31 * h + growth;
        h = 31 * h + (x.contradictory() ? 1 : 0);
        h = 31 * h + x.clauseCount();
        for (int i = 0; i < x.clauseCount(); i++) {
            h = 31 * (31 * h + x.clause(i, true)) + x.clause(i, false);
        }
        h = 31 * h + x.originalCount();
        for (int i = 0; i < x.originalCount(); i++) {
            h = 31 * (31 * h + x.original(i, true)) + x.original(i, false);
        }
        for (int v = 0; v < variables; v++) {
            h = 31 * (31 * h + x.status(v)) + x.value(v);
        }
        h = 31 * h + x.rowCount();
        for (int i = 0; i < x.rowCount(); i++) {
            h = 31 * (31 * (31 * h + x.row(i, 0)) + x.row(i, 1)) + x.row(i, 2);
        }
        for (int technique = 0; technique < 10; technique++) {
            h = 31 * h + x.total(technique);
        }
        return 31 * (31 * h + length) + saved;
    }

    private static void digest() {
        CnfPreprocessor x = new CnfPreprocessor();
        is(43, "digest() of a new object", x.digest(), digestOf(x, 8, 0, 0, 0));
        x.reset(5);
        x.setGrowth(3);
        write(x, "uqe");
        x.generate(4711, 9, 3);
        x.addClause(1, 4);
        x.addClause(4, 1);
        is(43, "digest() of a formula", x.digest(), digestOf(x, 5, 3, 3, 5));
        x.apply(8);
        x.run(4);
        is(43, "digest() after techniques", x.digest(), digestOf(x, 5, 3, 3, 6));
        x.undo();
        is(43, "digest() after undo()", x.digest(), digestOf(x, 5, 3, 3, 5));
        CnfPreprocessor y = formula(2, c(1), c(-1));
        y.apply(0);
        is(43, "digest() of a contradictory formula", y.digest(), digestOf(y, 2, 0, 0, 4));
    }
}
