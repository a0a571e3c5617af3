import java.lang.reflect.InvocationTargetException;
import java.lang.reflect.Method;
import java.util.ArrayList;
import java.util.Arrays;
import java.util.HashMap;
import java.util.List;
import java.util.Map;
import java.util.Random;

/**
 * Runs of random calls, each call made on a CnfPreprocessor and on a ReferenceModel: both must answer the same, and
 * both digests must be the same afterwards. The seeds are fixed, so that every run can be repeated.
 */
public final class AgainstReferenceTest {

    /** With 10 variables, growth 8 and these starts for 32 clauses of width 3, eliminating the variable that stands
     *  behind and then removing covered clauses fills the stack before the list is empty. */
    private static final int[][] FULL_STACKS = {
        {155322408, 9}, {1094297355, 2}, {600203936, 9}, {1083435158, 5}, {142076082, 9}, {163743435, 3},
        {60417567, 2}, {406074307, 5}, {1212629402, 6}, {852548793, 7}, {539223948, 5}, {166520158, 4},
        {1580186737, 2}, {1309162292, 6}, {813996601, 5}, {255593202, 0}, {1298472642, 8}, {1264130543, 3},
        {1295377249, 4}, {1308176960, 6}, {30026693, 5}, {1559388789, 9}, {126890820, 1},
    };

    private static final Map<String, Method[]> METHODS = new HashMap<>();
    private static final Map<String, Integer> ANSWERS = new HashMap<>();
    private static int wrong = 0;

    private final Random random;
    private final CnfPreprocessor tested = new CnfPreprocessor();
    private final ReferenceModel model = new ReferenceModel();
    private final List<String> history = new ArrayList<>();

    private AgainstReferenceTest(long seed) {
        random = new Random(seed);
    }

    public static void main(String[] args) throws Exception {
        int runs = args.length > 0 ? Integer.parseInt(args[0]) : 1500;
        long first = args.length > 1 ? Long.parseLong(args[1]) : 1;
        for (long seed = first; seed < first + runs && wrong < 5; seed++) {
            new AgainstReferenceTest(seed).play();
        }
        if (args.length > 0) {
            System.out.println(ANSWERS);
        }
        System.out.println(wrong == 0 ? runs + " random runs: all answers are as due" : wrong + " runs went wrong");
        if (wrong != 0) {
            System.exit(1);
        }
    }

    private void play() throws Exception {
        int scene = random.nextInt(8);
        boolean fine = prepare(scene);
        int calls = 20 + random.nextInt(60);
        for (int i = 0; i < calls && fine; i++) {
            fine = random.nextInt(12) == 0 ? prepare(scene) : randomCall();
        }
        if (!fine) {
            wrong++;
            System.out.println("the last of these calls:");
            for (String line : history) {
                System.out.println("  " + line);
            }
        }
    }

    private int below(int n) {
        return random.nextInt(n);
    }

    private boolean coin() {
        return random.nextBoolean();
    }

    /** Begins with a formula of a certain kind, so that the techniques find something to do. */
    private boolean prepare(int scene) throws Exception {
        int variables = scene == 4 || scene > 5 ? 10 : scene == 5 ? 1 + below(3) : 3 + below(8);
        boolean fine = both("reset", variables);
        switch (scene) {
            case 0:
                return fine && both("generate", below(100000), 3 + below(20), Math.min(variables, 2 + below(2)));
            case 1:
                return fine && both("generate", below(100000), 2 + below(8), Math.min(variables, 2))
                        && both("generate", below(100000), 1 + below(12), Math.min(variables, 3))
                        && (coin() || both("generate", below(100000), 1, 1));
            case 2:
                return fine && addText(variables) && both("readClauses");
            case 3:
                return fine && both("setGrowth", below(9))
                        && both("generate", below(100000), 20 + below(13), Math.min(variables, 3 + below(3)));
            case 4:
                return fine && both("setGrowth", below(9))
                        && both("generate", below(100000), 24 + below(9), 4 + below(6));
            case 5:
                return fine && mixedClauses(variables);
            case 6:
                return fine && fillStack();
            default:
                return fine && both("setGrowth", 8) && both("generate", below(100000), 32, 2 + below(3))
                        && eliminateSome() && eliminateSome() && eliminateSome();
        }
    }

    private boolean fillStack() throws Exception {
        int[] known = FULL_STACKS[below(FULL_STACKS.length)];
        boolean fine = both("setGrowth", 8) && both("generate", known[0], 32, 3) && both("eliminate", known[1]);
        if (below(3) == 0) {
            fine = fine && eliminateSome();
        }
        fine = fine && both("apply", 6);
        for (int i = 0; i < 6 && fine; i++) {
            fine = both("apply", below(10)) && both("canEliminate", below(10));
        }
        return fine;
    }

    private boolean eliminateSome() throws Exception {
        boolean fine = true;
        for (int v = 0; v < 10 && fine; v++) {
            fine = both("canEliminate", v) && (below(3) != 0 || both("eliminate", v));
        }
        return fine;
    }

    private boolean mixedClauses(int variables) throws Exception {
        boolean fine = true;
        int count = 1 + below(14);
        for (int i = 0; i < count && fine; i++) {
            int positive = below(1 << variables);
            int negative = below(1 << variables) & ~positive;
            fine = both("addClause", positive, negative);
        }
        return fine;
    }

    private boolean addText(int variables) throws Exception {
        boolean fine = both("clearText");
        StringBuilder text = new StringBuilder();
        int clauses = below(9);
        for (int c = 0; c < clauses; c++) {
            int width = below(12) == 0 ? 0 : 1 + below(4);
            for (int w = 0; w < width; w++) {
                text.append(coin() ? "-" : "").append(1 + below(below(40) == 0 ? 12 : variables));
                text.append(coin() ? " " : "\n ");
            }
            text.append("0").append(below(30) == 0 ? "" : " ");
        }
        if (text.length() > 0 && below(5) == 0) {
            text.setCharAt(below(text.length()), " -0123a\n".charAt(below(8)));
        }
        for (int i = 0; i < text.length() && fine; i++) {
            fine = both("append", (int) text.charAt(i));
        }
        return fine;
    }

    private boolean addSchedule() throws Exception {
        boolean fine = both("clearText");
        int length = below(8) == 0 ? 18 + below(6) : below(7);
        for (int i = 0; i < length && fine; i++) {
            int letter = below(60) == 0 ? 'x' : below(6) == 0 ? ' ' : "upstebcfqv".charAt(below(10));
            fine = both("append", letter);
        }
        return fine;
    }

    private int variable() {
        return below(12) - (below(20) == 0 ? 1 : 0);
    }

    private int literal() {
        return below(21) - (below(20) == 0 ? 1 : 0);
    }

    private int index() {
        int count = model.clauseCount();
        return below(20) == 0 ? -1 : below(count + 1);
    }

    private int technique() {
        return below(25) == 0 ? 20 * below(2) - 10 : below(10);
    }

    private boolean randomCall() throws Exception {
        switch (below(41)) {
            case 0: return both("addClause", below(1 << 8), below(16) * below(2));
            case 1: return both("addClause", below(1 << 3), below(1 << 3) << 3);
            case 2: return both("generate", below(1000) - 10, below(6), below(5));
            case 3: return both("originalCount") && both("original", below(34) - 1, coin());
            case 4: return both("clauseCount") && both("literalCount");
            case 5: return both("clause", index(), coin()) && both("contradictory");
            case 6: return both("status", variable()) && both("value", variable());
            case 7: return both("occurrences", literal());
            case 8: return both("append", below(140) - 6);
            case 9: return addText(8) && both("readClauses");
            case 10: return both("readClauses");
            case 11: case 12: return both("outputByte", below(500) - 5);
            case 13: case 14: case 15: case 16: return both("apply", technique());
            case 17: return addSchedule() && both("run", below(11));
            case 18: return addSchedule() && both("run", 1 + below(9));
            case 19: case 20: return both("eliminate", variable());
            case 21: return both("setGrowth", below(11) - 1);
            case 22: return both("total", technique());
            case 23: case 24: return both("undo");
            case 25: return both("canEliminate", variable());
            case 26: return both("resolventCount", variable());
            case 27: return both("resolvent", variable(), below(12) - 1, coin());
            case 28: return both("blockingLiteral", index());
            case 29: return both("coverPairs", index()) && both("extension", index(), coin());
            case 30: return both("vivified", index(), coin());
            case 31: return both("implied", index());
            case 32: return both("propagate", literal());
            case 33: return both("reachable", literal(), literal()) && both("representative", literal());
            case 34: return both("rowCount") && both("row", below(model.rowCount() + 2) - 1, below(5) - 1);
            case 35: return both("extend", below(1030) - 3) && both("extend", below(8));
            case 36: return both("solve") && both("unsatisfied", below(1030) - 3);
            case 37: return both("models", coin());
            case 38: return both("predict", technique(), coin());
            case 39: return both("bestTechnique");
            default: return audit();
        }
    }

    /** All that can be asked about the present state. */
    private boolean audit() throws Exception {
        boolean fine = both("bestTechnique") && both("solve") && both("models", true) && both("models", false);
        for (int v = 0; v < 10 && fine; v++) {
            fine = both("status", v) && both("value", v) && both("canEliminate", v) && both("resolventCount", v)
                    && both("resolvent", v, below(20), coin()) && both("extend", below(1024))
                    && both("unsatisfied", below(1024)) && both("predict", v, true) && both("predict", v, false)
                    && both("total", v);
        }
        for (int i = 0; i <= model.clauseCount() && fine; i++) {
            fine = both("clause", i, true) && both("clause", i, false) && both("blockingLiteral", i)
                    && both("extension", i, true) && both("extension", i, false) && both("coverPairs", i)
                    && both("vivified", i, true) && both("vivified", i, false) && both("implied", i);
        }
        for (int i = 0; i < 20 && fine; i++) {
            fine = both("occurrences", i) && both("propagate", i) && both("representative", i);
            for (int j = 0; j < 20 && fine; j++) {
                fine = both("reachable", i, j);
            }
        }
        for (int i = 0; i <= model.rowCount() && fine; i++) {
            fine = both("row", i, 0) && both("row", i, 1) && both("row", i, 2);
        }
        for (int i = 0; i < 100 && fine; i++) {
            fine = both("outputByte", i);
        }
        return fine;
    }

    /** Makes a call on both objects, and tells whether both did the same. */
    private boolean both(String name, Object... arguments) throws Exception {
        Method[] methods = METHODS.get(name);
        if (methods == null) {
            methods = new Method[] {find(CnfPreprocessor.class, name), find(ReferenceModel.class, name)};
            METHODS.put(name, methods);
        }
        String got = answer(methods[0], tested, arguments);
        String due = answer(methods[1], model, arguments);
        ANSWERS.merge(name + (due.startsWith("throws") ? " " + due : ""), 1, Integer::sum);
        history.add(name + Arrays.toString(arguments) + " = " + got + ", due is " + due);
        if (!got.equals(due)) {
            return false;
        }
        if (tested.digest() != model.digest()) {
            history.add("digest() = " + tested.digest() + ", due is " + model.digest());
            return false;
        }
        return true;
    }

    private static Method find(Class<?> owner, String name) {
        for (Method method : owner.getDeclaredMethods()) {
            if (method.getName().equals(name)) {
                method.setAccessible(true);
                return method;
            }
        }
        throw new IllegalStateException(name);
    }

    private static String answer(Method method, Object target, Object... arguments) throws Exception {
        try {
            return String.valueOf(method.invoke(target, arguments));
        } catch (InvocationTargetException e) {
            return "throws." + e.getCause().getClass().getSimpleName();
        }
    }
}
