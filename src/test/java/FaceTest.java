import java.lang.management.ManagementFactory;
import java.lang.reflect.Constructor;
import java.lang.reflect.Field;
import java.lang.reflect.Method;
import java.lang.reflect.Modifier;
import java.util.ArrayList;
import java.util.List;
import java.util.Set;
import java.util.TreeSet;

/** The public face is the one of the document, and a long run of calls leaves the room almost empty. */
public final class FaceTest {

    private static final String[] FACE = {
        "public int CnfPreprocessor.reset(int) throws java.lang.IllegalArgumentException",
        "public int CnfPreprocessor.addClause(int,int)"
            + " throws java.lang.IllegalArgumentException,java.lang.IllegalStateException",
        "public int CnfPreprocessor.generate(int,int,int)"
            + " throws java.lang.IllegalArgumentException,java.lang.IllegalStateException",
        "public int CnfPreprocessor.originalCount()",
        "public int CnfPreprocessor.original(int,boolean) throws java.lang.IndexOutOfBoundsException",
        "public int CnfPreprocessor.clauseCount()",
        "public int CnfPreprocessor.literalCount()",
        "public int CnfPreprocessor.clause(int,boolean) throws java.lang.IndexOutOfBoundsException",
        "public boolean CnfPreprocessor.contradictory()",
        "public int CnfPreprocessor.status(int) throws java.lang.IndexOutOfBoundsException",
        "public int CnfPreprocessor.value(int) throws java.lang.IndexOutOfBoundsException",
        "public int CnfPreprocessor.occurrences(int) throws java.lang.IndexOutOfBoundsException",
        "public int CnfPreprocessor.append(int)"
            + " throws java.lang.IllegalArgumentException,java.lang.IllegalStateException",
        "public int CnfPreprocessor.clearText()",
        "public int CnfPreprocessor.readClauses() throws java.lang.IllegalStateException",
        "public int CnfPreprocessor.outputByte(int) throws java.lang.IllegalArgumentException",
        "public int CnfPreprocessor.apply(int) throws java.lang.IllegalArgumentException",
        "public int CnfPreprocessor.run(int) throws java.lang.IllegalArgumentException",
        "public int CnfPreprocessor.eliminate(int)"
            + " throws java.lang.IndexOutOfBoundsException,java.lang.IllegalStateException",
        "public int CnfPreprocessor.setGrowth(int) throws java.lang.IllegalArgumentException",
        "public int CnfPreprocessor.total(int) throws java.lang.IllegalArgumentException",
        "public int CnfPreprocessor.undo() throws java.lang.IllegalStateException",
        "public boolean CnfPreprocessor.canEliminate(int) throws java.lang.IndexOutOfBoundsException",
        "public int CnfPreprocessor.resolventCount(int)"
            + " throws java.lang.IndexOutOfBoundsException,java.lang.IllegalStateException",
        "public int CnfPreprocessor.resolvent(int,int,boolean)"
            + " throws java.lang.IndexOutOfBoundsException,java.lang.IllegalStateException",
        "public int CnfPreprocessor.blockingLiteral(int) throws java.lang.IndexOutOfBoundsException",
        "public int CnfPreprocessor.coverPairs(int) throws java.lang.IndexOutOfBoundsException",
        "public int CnfPreprocessor.extension(int,boolean) throws java.lang.IndexOutOfBoundsException",
        "public int CnfPreprocessor.vivified(int,boolean) throws java.lang.IndexOutOfBoundsException",
        "public boolean CnfPreprocessor.implied(int) throws java.lang.IndexOutOfBoundsException",
        "public int CnfPreprocessor.propagate(int)"
            + " throws java.lang.IndexOutOfBoundsException,java.lang.IllegalStateException",
        "public boolean CnfPreprocessor.reachable(int,int) throws java.lang.IndexOutOfBoundsException",
        "public int CnfPreprocessor.representative(int) throws java.lang.IndexOutOfBoundsException",
        "public int CnfPreprocessor.rowCount()",
        "public int CnfPreprocessor.row(int,int)"
            + " throws java.lang.IndexOutOfBoundsException,java.lang.IllegalArgumentException",
        "public int CnfPreprocessor.extend(int) throws java.lang.IllegalArgumentException",
        "public int CnfPreprocessor.solve()",
        "public int CnfPreprocessor.unsatisfied(int) throws java.lang.IllegalArgumentException",
        "public int CnfPreprocessor.models(boolean)",
        "public int CnfPreprocessor.predict(int,boolean) throws java.lang.IllegalArgumentException",
        "public int CnfPreprocessor.bestTechnique()",
        "public long CnfPreprocessor.digest()",
    };

    private static final long MOST_BYTES_OF_AN_OBJECT = 40_000;
    private static final long MOST_BYTES_OF_512_CALLS = 20_000;
    private static int wrong = 0;

    public static void main(String[] args) {
        theMethods();
        theOtherMembers();
        theNestedClasses();
        theRoom();
        System.out.println(wrong == 0 ? "the face is as due" : wrong + " things are not as due");
        if (wrong != 0) {
            System.exit(1);
        }
    }

    private static void check(boolean fine, String what) {
        if (!fine) {
            wrong++;
            System.out.println("not as due: " + what);
        }
    }

    private static void theMethods() {
        Set<String> due = new TreeSet<>(List.of(FACE));
        Set<String> found = new TreeSet<>();
        Set<String> names = new TreeSet<>();
        List<Method> others = new ArrayList<>();
        for (Method method : CnfPreprocessor.class.getDeclaredMethods()) {
            if (Modifier.isPublic(method.getModifiers())) {
                found.add(method.toString());
                names.add(method.getName());
            } else {
                others.add(method);
            }
        }
        check(found.equals(due), "the public methods are " + found);
        for (Class<?> nested : CnfPreprocessor.class.getDeclaredClasses()) {
            others.addAll(List.of(nested.getDeclaredMethods()));
        }
        for (Method method : others) {
            check(!names.contains(method.getName()), method + " bears the name of a public method");
            check(method.getParameterCount() <= 7, method + " has more than seven parameters");
        }
    }

    private static void theOtherMembers() {
        check(Modifier.toString(CnfPreprocessor.class.getModifiers()).equals("public final"), "the class");
        for (Method method : CnfPreprocessor.class.getDeclaredMethods()) {
            int access = method.getModifiers();
            check(Modifier.isPublic(access) || Modifier.isPrivate(access), method.toString());
        }
        for (Field field : CnfPreprocessor.class.getDeclaredFields()) {
            int access = field.getModifiers();
            check(Modifier.isPrivate(access) || field.toString().equals("public static final int CnfPreprocessor.NONE"),
                    field.toString());
            check(!Modifier.isStatic(access) || Modifier.isFinal(access), field.toString());
        }
        Constructor<?>[] constructors = CnfPreprocessor.class.getDeclaredConstructors();
        check(constructors.length == 1 && constructors[0].toString().equals("public CnfPreprocessor()"),
                "the constructor");
    }

    private static void theNestedClasses() {
        Class<?>[] nested = CnfPreprocessor.class.getDeclaredClasses();
        check(nested.length <= 11, "the number of classes");
        for (Class<?> inside : nested) {
            check(Modifier.isStatic(inside.getModifiers()) && !Modifier.isPublic(inside.getModifiers()),
                    inside.toString());
            check(inside.getDeclaredFields().length <= 20, "the number of fields of " + inside);
        }
    }

    /** Objects are counted in bytes here, an int being four of them. */
    private static void theRoom() {
        if (!(ManagementFactory.getThreadMXBean() instanceof com.sun.management.ThreadMXBean bean)
                || !bean.isThreadAllocatedMemorySupported()) {
            return;
        }
        longRun(new CnfPreprocessor());
        long thread = Thread.currentThread().getId();
        long start = bean.getThreadAllocatedBytes(thread);
        CnfPreprocessor x = new CnfPreprocessor();
        long made = bean.getThreadAllocatedBytes(thread);
        longRun(x);
        long end = bean.getThreadAllocatedBytes(thread);
        check(made - start < MOST_BYTES_OF_AN_OBJECT, "a new object takes " + (made - start) + " bytes");
        check(end - made < MOST_BYTES_OF_512_CALLS, "512 calls take " + (end - made) + " bytes");
    }

    private static void longRun(CnfPreprocessor x) {
        for (int i = 0; i < 16; i++) {
            x.reset(10);
            x.setGrowth(8);
            x.generate(i, 32, 3);
            x.bestTechnique();
            for (int technique = 0; technique < 10; technique++) {
                x.predict(technique, true);
            }
            for (int technique = 0; technique < 10; technique++) {
                x.apply(technique);
            }
            x.solve();
            x.models(true);
            x.models(false);
            x.digest();
            x.outputByte(1000);
            x.undo();
            x.clearText();
            x.append('u');
        }
    }
}
