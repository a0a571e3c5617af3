import java.io.IOException;
import java.nio.file.Files;
import java.nio.file.Path;
import java.util.ArrayList;
import java.util.List;
import java.util.function.Supplier;

/**
 * What the tests share. Clauses are written here as numbers like in a text (without the 0 behind them), lists and
 * stacks as texts, and each test of a sentence of the document bears the words of this sentence.
 */
abstract class Checks {

    static final Class<IllegalArgumentException> ARGUMENT = IllegalArgumentException.class;
    static final Class<IllegalStateException> STATE = IllegalStateException.class;
    static final Class<IndexOutOfBoundsException> INDEX = IndexOutOfBoundsException.class;
    static final int LEAST = Integer.MIN_VALUE;
    static final int GREATEST = Integer.MAX_VALUE;
    static final int NONE = -1;

    private static final Path DOCUMENT = Path.of("../shared/DOC.md");
    private static final List<String> QUOTES = new ArrayList<>();
    private static String present = "";
    private static int checks = 0;
    private static int wrong = 0;

    // ---- sentences and checks

    /** Tests one sentence of the document; an exception in the test is a fault of this sentence alone. */
    static void sentence(String where, String words, Runnable test) {
        present = where + ", \"" + words + "\"";
        QUOTES.add(words);
        int before = checks;
        try {
            test.run();
        } catch (RuntimeException e) {
            fault("the test", e, "no exception");
        }
        if (checks == before) {
            fault("the number of checks", 0, "at least 1");
        }
    }

    static void is(String what, long got, long due) {
        checks++;
        if (got != due) {
            fault(what, got, due);
        }
    }

    static void is(String what, boolean got, boolean due) {
        is(what, got ? 1 : 0, due ? 1 : 0);
    }

    static void is(String what, String got, String due) {
        checks++;
        if (!got.equals(due)) {
            fault(what, got, due);
        }
    }

    /** The call must throw just this exception, and must change nothing. */
    static void refuses(String what, CnfPreprocessor x, Class<?> due, Supplier<Object> call) {
        checks++;
        long before = x.digest();
        try {
            fault(what, call.get(), due.getSimpleName());
        } catch (RuntimeException e) {
            if (e.getClass() != due) {
                fault(what, e.getClass().getSimpleName(), due.getSimpleName());
            }
        }
        is("the state after " + what, x.digest(), before);
    }

    /** Indices that are too small, and those that are too large from the first one on. */
    static void refusesBeyond(String what, CnfPreprocessor x, Class<?> due, int first, Indexed call) {
        for (int wrongOne : new int[] {-1, LEAST, first, first + 1, GREATEST}) {
            refuses(what + " for " + wrongOne, x, due, () -> call.at(wrongOne));
        }
    }

    /** The call answers, but changes nothing. */
    static void leaves(String what, CnfPreprocessor x, Runnable call) {
        long before = x.digest();
        call.run();
        is("the state after " + what, x.digest(), before);
    }

    private static void fault(String what, Object got, Object due) {
        wrong++;
        System.out.println(present + ": " + what + " is " + got + ", due is " + due);
    }

    /** Tells what was found; words that the document does not have (any more) are told, but are no fault. */
    static void finish() {
        String document = words(DOCUMENT);
        for (String quote : QUOTES) {
            if (!document.isEmpty() && !document.contains(plain(quote))) {
                System.out.println("note: the document does not say \"" + quote + "\"");
            }
        }
        System.out.println(QUOTES.size() + " sentences, " + checks + " checks, " + wrong + " went wrong");
        if (wrong != 0) {
            System.exit(1);
        }
    }

    private static String words(Path path) {
        try {
            return plain(Files.readString(path));
        } catch (IOException e) {
            return "";
        }
    }

    /** Without the marks and the line breaks of the document. */
    private static String plain(String text) {
        return text.replace("```text", " ").replace("`", "").replaceAll("\\s+", " ");
    }

    // ---- formulas

    interface Indexed {
        Object at(int index);
    }

    /** A new object with some variables and with clauses. */
    static CnfPreprocessor formula(int variables, int[]... clauses) {
        CnfPreprocessor x = new CnfPreprocessor();
        x.reset(variables);
        for (int[] clause : clauses) {
            add(x, clause);
        }
        return x;
    }

    static int[] c(int... numbers) {
        return numbers;
    }

    static void add(CnfPreprocessor x, int... numbers) {
        x.addClause(positive(numbers), negative(numbers));
    }

    static int positive(int... numbers) {
        int set = 0;
        for (int number : numbers) {
            set |= number > 0 ? 1 << (number - 1) : 0;
        }
        return set;
    }

    static int negative(int... numbers) {
        int set = 0;
        for (int number : numbers) {
            set |= number < 0 ? 1 << (-number - 1) : 0;
        }
        return set;
    }

    /** A set of literals, as propagate answers it. */
    static int literals(int... numbers) {
        int set = 0;
        for (int number : numbers) {
            set |= 1 << (number > 0 ? 2 * (number - 1) : 2 * (-number - 1) + 1);
        }
        return set;
    }

    /** The two sets of an answer as numbers like in a text. */
    static String clauseOf(int positive, int negative) {
        StringBuilder all = new StringBuilder();
        for (int v = 0; v < 10; v++) {
            if ((positive >> v & 1) == 1) {
                all.append(v + 1).append(' ');
            }
            if ((negative >> v & 1) == 1) {
                all.append(-v - 1).append(' ');
            }
        }
        return all.toString();
    }

    static void write(CnfPreprocessor x, String text) {
        x.clearText();
        for (int i = 0; i < text.length(); i++) {
            x.append(text.charAt(i));
        }
    }

    /** The list, with ; behind each clause. */
    static String list(CnfPreprocessor x) {
        StringBuilder all = new StringBuilder();
        int count = x.clauseCount();
        for (int i = 0; i < count; i++) {
            all.append(clauseOf(x.clause(i, true), x.clause(i, false))).append("0;");
        }
        return all.toString();
    }

    /** The rows from a number on, each one as its clause, a colon, and its witness. */
    static String rows(CnfPreprocessor x, int from) {
        StringBuilder all = new StringBuilder();
        int count = x.rowCount();
        for (int i = from; i < count; i++) {
            int witness = x.row(i, 2);
            all.append(clauseOf(x.row(i, 0), x.row(i, 1)));
            all.append(": ").append(witness % 2 == 0 ? witness / 2 + 1 : -(witness / 2) - 1).append(';');
        }
        return all.toString();
    }

    static String rows(CnfPreprocessor x) {
        return rows(x, 0);
    }

    // ---- formulas that reach a limit

    /** 32 clauses of one literal. */
    static CnfPreprocessor fullOriginals() {
        CnfPreprocessor x = new CnfPreprocessor();
        for (int i = 0; i < 32; i++) {
            x.addClause(1 << (i % 8), 0);
        }
        return x;
    }

    /**
     * A list of 48 clauses, of which 43 do not contain the third variable. This one has 6 resolvents for its 5
     * clauses, so it cannot be eliminated for lack of room alone.
     */
    static CnfPreprocessor fullList() {
        return longList(11, c(3, 4), c(3, 5), c(-3, 8), c(-3, 9), c(-3, 10));
    }

    /**
     * A list of the given clauses, of some more (all equal ones), and of 32 resolvents, which come from the
     * elimination of two variables that have 16 resolvents for 8 clauses each. The growth is 8.
     */
    static CnfPreprocessor longList(int more, int[]... clauses) {
        CnfPreprocessor x = new CnfPreprocessor();
        x.reset(10);
        x.setGrowth(8);
        addWide(x, 1);
        addWide(x, 2);
        for (int[] clause : clauses) {
            add(x, clause);
        }
        for (int i = 0; i < more; i++) {
            add(x, 4, 5, 6, 7, -8);
        }
        x.eliminate(0);
        x.eliminate(1);
        return x;
    }

    /** Eight clauses of a variable that has 16 resolvents. */
    static void addWide(CnfPreprocessor x, int number) {
        for (int i = 4; i <= 7; i++) {
            add(x, number, i);
        }
        for (int i = 8; i <= 10; i++) {
            add(x, -number, i);
        }
        add(x, -number, 8, 9);
    }

    /**
     * The removal of covered clauses brings the stack to its limit for some starts, if a certain variable has been
     * eliminated before. The growth is 8.
     */
    static CnfPreprocessor stacked(int start, int eliminated) {
        CnfPreprocessor x = new CnfPreprocessor();
        x.reset(10);
        x.setGrowth(8);
        x.generate(start, 32, 3);
        x.eliminate(eliminated);
        x.apply(6);
        return x;
    }

    /** 119 rows and the list -1 -2 10, 1 3 -7 10: both clauses are blocked, and both have two pairs. */
    static CnfPreprocessor almostFullStack() {
        return stacked(1295377249, 4);
    }

    /** 120 rows; strengthening makes the unit -4, which is a failed literal before, too. */
    static CnfPreprocessor fullStackWithUnit() {
        return stacked(30026693, 5);
    }

    /** 120 rows; strengthening makes two variables equivalent. */
    static CnfPreprocessor fullStackWithEquivalence() {
        return stacked(1559388789, 9);
    }

    /** 120 rows and pure literals. */
    static CnfPreprocessor fullStackWithPureLiterals() {
        return stacked(126890820, 1);
    }

    /**
     * 120 rows, and an implication from each variable to the next one and from the last one to the first one, and the
     * clause 1 2. Equivalences and units can push 19 rows more, which are the most that there can ever be.
     */
    static CnfPreprocessor fullStackWithCircle() {
        CnfPreprocessor x = formula(10);
        for (int i = 0; i < 3; i++) {
            add(x, 1, -2);
        }
        for (int i = 0; i < 14; i++) {
            add(x, -1, 2);
        }
        for (int i = 2; i < 10; i++) {
            add(x, -i, i + 1);
        }
        add(x, -10, 1);
        add(x, 1, 2);
        // One pair for each of the first 3 clauses, and 9 pairs for each of the next 13.
        x.apply(6);
        return x;
    }
}
