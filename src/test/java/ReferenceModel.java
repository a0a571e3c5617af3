import java.util.ArrayDeque;
import java.util.ArrayList;
import java.util.Arrays;
import java.util.Deque;
import java.util.HashSet;
import java.util.LinkedHashSet;
import java.util.List;
import java.util.Set;
import java.util.SortedSet;
import java.util.TreeSet;

/**
 * The document told once more, in another form: clauses are sorted sets of literal numbers, a state is copied whole,
 * and nothing is done for speed. It follows the words of the document one by one, so that a difference between it and
 * CnfPreprocessor points at a slip in one of both.
 */
final class ReferenceModel {

    static final int NONE = -1;

    private record Row(SortedSet<Integer> clause, int witness) { }

    private record Extended(SortedSet<Integer> literals, List<Row> pairs, boolean covered) { }

    private record Vivified(SortedSet<Integer> clause, boolean firstFailed) { }

    private static final class Content {
        int v = 8;
        int growth = 0;
        List<SortedSet<Integer>> list = new ArrayList<>();
        List<SortedSet<Integer>> originals = new ArrayList<>();
        int[] status = new int[10];
        int[] value = new int[10];
        List<Row> rows = new ArrayList<>();
        int[] totals = new int[10];

        Content() {
            Arrays.fill(value, NONE);
        }

        Content copy() {
            Content c = new Content();
            c.v = v;
            c.growth = growth;
            for (SortedSet<Integer> clause : list) {
                c.list.add(new TreeSet<>(clause));
            }
            for (SortedSet<Integer> clause : originals) {
                c.originals.add(new TreeSet<>(clause));
            }
            c.status = status.clone();
            c.value = value.clone();
            c.rows = new ArrayList<>(rows);
            c.totals = totals.clone();
            return c;
        }
    }

    private Content now = new Content();
    private final Deque<Content> saved = new ArrayDeque<>();
    private final StringBuilder text = new StringBuilder();

    // ---- helpers

    private void save() {
        saved.addLast(now.copy());
        if (saved.size() > 6) {
            saved.removeFirst();
        }
    }

    private static SortedSet<Integer> clauseOf(int positive, int negative) {
        SortedSet<Integer> clause = new TreeSet<>();
        for (int v = 0; v < 10; v++) {
            if ((positive & 1 << v) != 0) {
                clause.add(2 * v);
            }
            if ((negative & 1 << v) != 0) {
                clause.add(2 * v + 1);
            }
        }
        return clause;
    }

    private static int side(SortedSet<Integer> clause, boolean positive) {
        int set = 0;
        for (int literal : clause) {
            if (literal % 2 == (positive ? 0 : 1)) {
                set += 1 << literal / 2;
            }
        }
        return set;
    }

    private static int comp(int literal) {
        return literal % 2 == 0 ? literal + 1 : literal - 1;
    }

    private static boolean complementary(Set<Integer> literals) {
        for (int literal : literals) {
            if (literals.contains(comp(literal))) {
                return true;
            }
        }
        return false;
    }

    private static SortedSet<Integer> without(SortedSet<Integer> clause, int literal) {
        SortedSet<Integer> result = new TreeSet<>(clause);
        result.remove(literal);
        return result;
    }

    private static boolean isTrue(int literal, int assignment) {
        boolean variable = (assignment & 1 << literal / 2) != 0;
        return literal % 2 == 0 ? variable : !variable;
    }

    private static boolean satisfies(int assignment, SortedSet<Integer> clause) {
        for (int literal : clause) {
            if (isTrue(literal, assignment)) {
                return true;
            }
        }
        return false;
    }

    private static boolean satisfiesAll(int assignment, List<SortedSet<Integer>> clauses) {
        for (SortedSet<Integer> clause : clauses) {
            if (!satisfies(assignment, clause)) {
                return false;
            }
        }
        return true;
    }

    private boolean isContradictory() {
        for (SortedSet<Integer> clause : now.list) {
            if (clause.isEmpty()) {
                return true;
            }
        }
        return false;
    }

    private void becomeContradictory() {
        now.list.clear();
        now.list.add(new TreeSet<>());
    }

    /** To be called after each change that might have put the empty clause into the list. */
    private void settle() {
        if (isContradictory()) {
            becomeContradictory();
        }
    }

    private void variableMustExist(int variable) {
        if (variable < 0 || variable > now.v - 1) {
            throw new IndexOutOfBoundsException();
        }
    }

    private void literalMustExist(int literal) {
        if (literal < 0 || literal > 2 * now.v - 1) {
            throw new IndexOutOfBoundsException();
        }
    }

    private void clauseMustExist(int index) {
        if (index < 0 || index > now.list.size() - 1) {
            throw new IndexOutOfBoundsException();
        }
    }

    private void techniqueMustExist(int technique) {
        if (technique < 0 || technique > 9) {
            throw new IllegalArgumentException();
        }
    }

    private void assignmentMustExist(int assignment) {
        if (assignment < 0 || assignment > (int) Math.pow(2, now.v) - 1) {
            throw new IllegalArgumentException();
        }
    }

    private void mustBeOpen() {
        for (int v = 0; v < now.v; v++) {
            if (now.status[v] != 0) {
                throw new IllegalStateException();
            }
        }
        if (!now.rows.isEmpty() || isContradictory()) {
            throw new IllegalStateException();
        }
    }

    // ---- formulas

    int reset(int variables) {
        if (variables < 1 || variables > 10) {
            throw new IllegalArgumentException();
        }
        save();
        int before = now.v;
        now = new Content();
        now.v = variables;
        return before;
    }

    int addClause(int positive, int negative) {
        int end = 1 << now.v;
        if (positive < 0 || negative < 0 || positive >= end || negative >= end || (positive & negative) != 0) {
            throw new IllegalArgumentException();
        }
        mustBeOpen();
        if (now.originals.size() == 32) {
            throw new IllegalStateException();
        }
        save();
        now.originals.add(clauseOf(positive, negative));
        now.list.add(clauseOf(positive, negative));
        settle();
        return now.originals.size();
    }

    int generate(int start, int count, int width) {
        if (start < 0 || count < 1 || count > 32 || width < 1 || width > now.v) {
            throw new IllegalArgumentException();
        }
        mustBeOpen();
        if (now.originals.size() + count > 32) {
            throw new IllegalStateException();
        }
        save();
        long[] x = {start};
        for (int c = 0; c < count; c++) {
            SortedSet<Integer> clause = new TreeSet<>();
            for (int w = 0; w < width; w++) {
                int k = draw(x, now.v - clause.size());
                List<Integer> free = new ArrayList<>();
                for (int v = 0; v < now.v; v++) {
                    if (!clause.contains(2 * v) && !clause.contains(2 * v + 1)) {
                        free.add(v);
                    }
                }
                int variable = free.get(k);
                clause.add(draw(x, 2) == 1 ? 2 * variable + 1 : 2 * variable);
            }
            now.originals.add(clause);
            now.list.add(new TreeSet<>(clause));
        }
        return now.originals.size();
    }

    private static int draw(long[] x, int n) {
        x[0] = (x[0] * 1103515245L + 12345L) % 2147483648L;
        return (int) (x[0] / 65536 % n);
    }

    int originalCount() {
        return now.originals.size();
    }

    int original(int index, boolean positive) {
        if (index < 0 || index >= now.originals.size()) {
            throw new IndexOutOfBoundsException();
        }
        return side(now.originals.get(index), positive);
    }

    int clauseCount() {
        return now.list.size();
    }

    int literalCount() {
        int count = 0;
        for (SortedSet<Integer> clause : now.list) {
            count += clause.size();
        }
        return count;
    }

    int clause(int index, boolean positive) {
        clauseMustExist(index);
        return side(now.list.get(index), positive);
    }

    boolean contradictory() {
        return isContradictory();
    }

    int status(int variable) {
        variableMustExist(variable);
        return now.status[variable];
    }

    int value(int variable) {
        variableMustExist(variable);
        return now.value[variable];
    }

    int occurrences(int literal) {
        literalMustExist(literal);
        return containing(literal).size();
    }

    private List<SortedSet<Integer>> containing(int literal) {
        List<SortedSet<Integer>> clauses = new ArrayList<>();
        for (SortedSet<Integer> clause : now.list) {
            if (clause.contains(literal)) {
                clauses.add(clause);
            }
        }
        return clauses;
    }

    // ---- texts

    int append(int value) {
        if (value < 0 || value > 127) {
            throw new IllegalArgumentException();
        }
        if (text.length() == 160) {
            throw new IllegalStateException();
        }
        text.append((char) value);
        return text.length();
    }

    int clearText() {
        int length = text.length();
        text.setLength(0);
        return length;
    }

    int readClauses() {
        mustBeOpen();
        List<SortedSet<Integer>> clauses = new ArrayList<>();
        int error = parse(clauses);
        if (error >= 0) {
            return -1 - error;
        }
        if (now.originals.size() + clauses.size() > 32) {
            throw new IllegalStateException();
        }
        save();
        for (SortedSet<Integer> clause : clauses) {
            now.originals.add(clause);
            now.list.add(new TreeSet<>(clause));
        }
        settle();
        return clauses.size();
    }

    /** Returns -1, or the syntax error position. */
    private int parse(List<SortedSet<Integer>> clauses) {
        int at = 0;
        SortedSet<Integer> clause = new TreeSet<>();
        boolean begun = false;
        while (true) {
            while (at < text.length() && blank(at)) {
                at++;
            }
            if (at == text.length()) {
                return begun ? at : -1;
            }
            boolean negative = text.charAt(at) == '-';
            if (negative) {
                at++;
                if (at == text.length() || text.charAt(at) == '0') {
                    return at;
                }
            }
            if (!digit(at)) {
                return at;
            }
            if (text.charAt(at) == '0') {
                at++;
                if (!complementary(clause)) {
                    clauses.add(clause);
                }
                clause = new TreeSet<>();
                begun = false;
            } else {
                int number = 0;
                while (at < text.length() && digit(at)) {
                    number = 10 * number + (text.charAt(at) - '0');
                    if (number > now.v) {
                        return at;
                    }
                    at++;
                }
                clause.add(negative ? 2 * number - 1 : 2 * number - 2);
                begun = true;
            }
            if (at < text.length() && !blank(at)) {
                return at;
            }
        }
    }

    private boolean blank(int at) {
        return text.charAt(at) == ' ' || text.charAt(at) == '\n';
    }

    private boolean digit(int at) {
        return at < text.length() && text.charAt(at) >= '0' && text.charAt(at) <= '9';
    }

    int outputByte(int index) {
        if (index < 0) {
            throw new IllegalArgumentException();
        }
        StringBuilder output = new StringBuilder();
        for (SortedSet<Integer> clause : now.list) {
            for (int literal : clause) {
                output.append(literal % 2 == 0 ? "" : "-").append(literal / 2 + 1).append(' ');
            }
            output.append("0\n");
        }
        return index < output.length() ? output.charAt(index) : NONE;
    }

    // ---- techniques

    int apply(int technique) {
        techniqueMustExist(technique);
        save();
        return use(technique);
    }

    private int use(int technique) {
        int result = isContradictory() ? 0 : perform(technique);
        now.totals[technique] += result;
        return result;
    }

    private int perform(int technique) {
        switch (technique) {
            case 0: return units();
            case 1: return pure();
            case 2: return subsumption();
            case 3: return strengthening();
            case 4: return elimination();
            case 5: return blocked();
            case 6: return covered();
            case 7: return failed();
            case 8: return equivalences();
            default: return vivification();
        }
    }

    private void fix(int literal) {
        now.status[literal / 2] = 1;
        now.value[literal / 2] = literal % 2 == 0 ? 1 : 0;
        SortedSet<Integer> alone = new TreeSet<>();
        alone.add(literal);
        now.rows.add(new Row(alone, literal));
        now.list.removeIf(clause -> clause.contains(literal));
        for (SortedSet<Integer> clause : now.list) {
            clause.remove(comp(literal));
        }
        settle();
    }

    private int units() {
        int result = 0;
        boolean again = true;
        while (again) {
            again = false;
            for (SortedSet<Integer> clause : now.list) {
                if (clause.size() == 1) {
                    fix(clause.first());
                    result++;
                    again = true;
                    break;
                }
            }
        }
        return result;
    }

    private int pure() {
        int result = 0;
        for (int v = 0; v < now.v; v++) {
            boolean positive = !containing(2 * v).isEmpty();
            boolean negative = !containing(2 * v + 1).isEmpty();
            if (now.status[v] == 0 && positive != negative) {
                fix(positive ? 2 * v : 2 * v + 1);
                result++;
                v = -1;
            }
        }
        return result;
    }

    private int subsumption() {
        List<SortedSet<Integer>> kept = new ArrayList<>();
        for (int i = 0; i < now.list.size(); i++) {
            boolean gone = false;
            for (int j = 0; j < now.list.size(); j++) {
                SortedSet<Integer> mine = now.list.get(i);
                SortedSet<Integer> other = now.list.get(j);
                boolean proper = mine.containsAll(other) && mine.size() > other.size();
                boolean equalEarlier = mine.equals(other) && j < i;
                gone |= i != j && (proper || equalEarlier);
            }
            if (!gone) {
                kept.add(now.list.get(i));
            }
        }
        int result = now.list.size() - kept.size();
        now.list = kept;
        return result;
    }

    private int strengthening() {
        int result = 0;
        while (!isContradictory() && strengthenOnce()) {
            result++;
            settle();
        }
        return result;
    }

    private boolean strengthenOnce() {
        for (int i = 0; i < now.list.size(); i++) {
            SortedSet<Integer> c = now.list.get(i);
            for (int l : c) {
                for (int j = 0; j < now.list.size(); j++) {
                    SortedSet<Integer> d = now.list.get(j);
                    if (i != j && d.contains(comp(l)) && c.containsAll(without(d, comp(l)))) {
                        c.remove(l);
                        return true;
                    }
                }
            }
        }
        return false;
    }

    private List<SortedSet<Integer>> resolvents(int v) {
        LinkedHashSet<SortedSet<Integer>> found = new LinkedHashSet<>();
        for (SortedSet<Integer> c : containing(2 * v)) {
            for (SortedSet<Integer> d : containing(2 * v + 1)) {
                SortedSet<Integer> r = without(c, 2 * v);
                r.addAll(without(d, 2 * v + 1));
                if (!complementary(r)) {
                    found.add(r);
                }
            }
        }
        return new ArrayList<>(found);
    }

    private int with(int v) {
        return containing(2 * v).size() + containing(2 * v + 1).size();
    }

    private boolean eliminable(int v) {
        if (now.status[v] != 0 || with(v) == 0) {
            return false;
        }
        int number = resolvents(v).size();
        return number <= with(v) + now.growth
                && now.list.size() - with(v) + number <= 48
                && now.rows.size() + containing(2 * v).size() <= 120;
    }

    private void eliminateIt(int v) {
        List<SortedSet<Integer>> resolvents = resolvents(v);
        for (SortedSet<Integer> clause : containing(2 * v)) {
            now.rows.add(new Row(clause, 2 * v));
        }
        now.list.removeIf(clause -> clause.contains(2 * v) || clause.contains(2 * v + 1));
        now.status[v] = 2;
        now.list.addAll(resolvents);
        settle();
    }

    private int elimination() {
        int result = 0;
        while (true) {
            int best = -1;
            for (int v = 0; v < now.v; v++) {
                if (eliminable(v)
                        && (best < 0 || resolvents(v).size() - with(v) < resolvents(best).size() - with(best))) {
                    best = v;
                }
            }
            if (best < 0) {
                return result;
            }
            eliminateIt(best);
            result++;
        }
    }

    private int blocked() {
        int result = 0;
        boolean again = true;
        while (again && now.rows.size() < 120) {
            again = false;
            for (int i = 0; i < now.list.size() && !again; i++) {
                int literal = blocker(i);
                if (literal != NONE) {
                    now.rows.add(new Row(now.list.remove(i), literal));
                    result++;
                    again = true;
                }
            }
        }
        return result;
    }

    private int blocker(int index) {
        SortedSet<Integer> c = now.list.get(index);
        for (int l : c) {
            boolean blocks = true;
            for (SortedSet<Integer> d : containing(comp(l))) {
                SortedSet<Integer> together = without(c, l);
                together.addAll(without(d, comp(l)));
                blocks &= complementary(together);
            }
            if (blocks) {
                return l;
            }
        }
        return NONE;
    }

    private int covered() {
        int result = 0;
        boolean again = true;
        while (again) {
            again = false;
            for (int i = 0; i < now.list.size() && !again; i++) {
                Extended e = extended(i);
                if (e.covered() && now.rows.size() + e.pairs().size() <= 120) {
                    now.list.remove(i);
                    now.rows.addAll(e.pairs());
                    result++;
                    again = true;
                }
            }
        }
        return result;
    }

    private Extended extended(int index) {
        SortedSet<Integer> e = new TreeSet<>(now.list.get(index));
        List<Row> pairs = new ArrayList<>();
        List<Integer> left = new ArrayList<>(e);
        while (!left.isEmpty()) {
            int l = left.remove(0);
            List<SortedSet<Integer>> r = new ArrayList<>();
            for (int j = 0; j < now.list.size(); j++) {
                SortedSet<Integer> d = now.list.get(j);
                if (j != index && d.contains(comp(l))) {
                    SortedSet<Integer> together = without(e, l);
                    together.addAll(without(d, comp(l)));
                    if (!complementary(together)) {
                        r.add(d);
                    }
                }
            }
            if (r.isEmpty()) {
                pairs.add(new Row(new TreeSet<>(e), l));
                return new Extended(e, pairs, true);
            }
            SortedSet<Integer> x = new TreeSet<>(r.get(0));
            for (SortedSet<Integer> d : r) {
                x.retainAll(d);
            }
            x.remove(comp(l));
            x.removeAll(e);
            if (!x.isEmpty()) {
                pairs.add(new Row(new TreeSet<>(e), l));
                e.addAll(x);
                left = new ArrayList<>(e);
            }
        }
        return new Extended(e, pairs, false);
    }

    /** Null if the propagation fails. */
    private Set<Integer> propagation(Set<Integer> s, int except) {
        Set<Integer> t = new HashSet<>(s);
        boolean again = true;
        while (again) {
            again = false;
            for (int i = 0; i < now.list.size(); i++) {
                if (i == except) {
                    continue;
                }
                boolean satisfied = false;
                List<Integer> open = new ArrayList<>();
                for (int l : now.list.get(i)) {
                    satisfied |= t.contains(l);
                    if (!t.contains(comp(l))) {
                        open.add(l);
                    }
                }
                if (!satisfied && open.isEmpty()) {
                    return null;
                }
                if (!satisfied && open.size() == 1) {
                    t.add(open.get(0));
                    again = true;
                }
            }
        }
        return t;
    }

    private int failed() {
        int result = 0;
        for (int l = 0; l < 2 * now.v; l++) {
            if (now.status[l / 2] == 0 && propagation(Set.of(l), -1) == null) {
                fix(comp(l));
                result++;
                if (!isContradictory()) {
                    units();
                }
                if (isContradictory()) {
                    return result;
                }
            }
        }
        return result;
    }

    private boolean reaches(int from, int to) {
        Set<Integer> seen = new HashSet<>();
        Deque<Integer> todo = new ArrayDeque<>();
        seen.add(from);
        todo.add(from);
        while (!todo.isEmpty()) {
            int a = todo.remove();
            for (SortedSet<Integer> clause : now.list) {
                if (clause.size() == 2 && clause.contains(comp(a))) {
                    int b = clause.first() == comp(a) ? clause.last() : clause.first();
                    if (seen.add(b)) {
                        todo.add(b);
                    }
                }
            }
        }
        return seen.contains(to);
    }

    private int lowestEqual(int literal) {
        for (int other = 0; other < 2 * now.v; other++) {
            if (reaches(literal, other) && reaches(other, literal)) {
                return other;
            }
        }
        throw new AssertionError("a literal is equivalent to itself");
    }

    private int equivalences() {
        int[] before = new int[2 * now.v];
        for (int l = 0; l < 2 * now.v; l++) {
            before[l] = lowestEqual(l);
        }
        for (int v = 0; v < now.v; v++) {
            if (now.status[v] == 0 && before[2 * v] == before[2 * v + 1]) {
                becomeContradictory();
                return 0;
            }
        }
        int result = 0;
        for (int v = 0; v < now.v; v++) {
            int r = before[2 * v];
            if (now.status[v] == 0 && r != 2 * v) {
                now.rows.add(new Row(new TreeSet<>(Set.of(2 * v, comp(r))), 2 * v));
                now.rows.add(new Row(new TreeSet<>(Set.of(2 * v + 1, r)), 2 * v + 1));
                now.status[v] = 3;
                now.value[v] = r;
                result++;
            }
        }
        List<SortedSet<Integer>> replaced = new ArrayList<>();
        for (SortedSet<Integer> clause : now.list) {
            SortedSet<Integer> other = new TreeSet<>();
            for (int l : clause) {
                other.add(before[l]);
            }
            if (!complementary(other)) {
                replaced.add(other);
            }
        }
        now.list = replaced;
        return result;
    }

    private Vivified vivify(int index) {
        SortedSet<Integer> c = now.list.get(index);
        if (c.size() < 2) {
            return new Vivified(c, false);
        }
        Set<Integer> t = propagation(Set.of(), index);
        if (t == null) {
            return new Vivified(new TreeSet<>(), true);
        }
        SortedSet<Integer> k = new TreeSet<>();
        for (int l : c) {
            if (t.contains(l)) {
                k.add(l);
                break;
            }
            if (t.contains(comp(l))) {
                continue;
            }
            k.add(l);
            Set<Integer> more = new HashSet<>(t);
            more.add(comp(l));
            t = propagation(more, index);
            if (t == null) {
                break;
            }
        }
        return new Vivified(k, false);
    }

    private int vivification() {
        int result = 0;
        for (int i = 0; i < now.list.size(); i++) {
            Vivified v = vivify(i);
            if (!v.firstFailed()) {
                result += now.list.get(i).size() - v.clause().size();
            }
            now.list.set(i, new TreeSet<>(v.clause()));
            if (isContradictory()) {
                becomeContradictory();
                return result;
            }
        }
        return result;
    }

    int run(int rounds) {
        if (rounds < 1 || rounds > 9) {
            throw new IllegalArgumentException();
        }
        List<Integer> schedule = new ArrayList<>();
        for (int i = 0; i < text.length(); i++) {
            if (!blank(i)) {
                int technique = "upstebcfqv".indexOf(text.charAt(i));
                if (technique < 0 || schedule.size() == 20) {
                    return -1 - i;
                }
                schedule.add(technique);
            }
        }
        if (schedule.isEmpty()) {
            return -1 - text.length();
        }
        save();
        int round = 0;
        while (round < rounds) {
            round++;
            boolean allZero = true;
            for (int technique : schedule) {
                allZero &= use(technique) == 0;
            }
            if (allZero || isContradictory()) {
                break;
            }
        }
        return round;
    }

    int eliminate(int variable) {
        variableMustExist(variable);
        if (!eliminable(variable)) {
            throw new IllegalStateException();
        }
        save();
        int result = resolvents(variable).size();
        eliminateIt(variable);
        now.totals[4]++;
        return result;
    }

    int setGrowth(int growth) {
        if (growth < 0 || growth > 8) {
            throw new IllegalArgumentException();
        }
        save();
        int before = now.growth;
        now.growth = growth;
        return before;
    }

    int total(int technique) {
        techniqueMustExist(technique);
        return now.totals[technique];
    }

    int undo() {
        if (saved.isEmpty()) {
            throw new IllegalStateException();
        }
        now = saved.removeLast();
        return saved.size();
    }

    // ---- queries about variables and clauses

    boolean canEliminate(int variable) {
        variableMustExist(variable);
        return eliminable(variable);
    }

    int resolventCount(int variable) {
        variableMustExist(variable);
        if (now.status[variable] != 0) {
            throw new IllegalStateException();
        }
        return resolvents(variable).size();
    }

    int resolvent(int variable, int index, boolean positive) {
        variableMustExist(variable);
        if (now.status[variable] != 0) {
            throw new IllegalStateException();
        }
        List<SortedSet<Integer>> found = resolvents(variable);
        if (index < 0 || index >= found.size()) {
            throw new IndexOutOfBoundsException();
        }
        return side(found.get(index), positive);
    }

    int blockingLiteral(int index) {
        clauseMustExist(index);
        return blocker(index);
    }

    int coverPairs(int index) {
        clauseMustExist(index);
        Extended e = extended(index);
        return e.covered() ? e.pairs().size() : NONE;
    }

    int extension(int index, boolean positive) {
        clauseMustExist(index);
        return side(extended(index).literals(), positive);
    }

    int vivified(int index, boolean positive) {
        clauseMustExist(index);
        return side(vivify(index).clause(), positive);
    }

    boolean implied(int index) {
        clauseMustExist(index);
        Set<Integer> complements = new HashSet<>();
        for (int l : now.list.get(index)) {
            complements.add(comp(l));
        }
        return propagation(complements, index) == null;
    }

    int propagate(int literal) {
        literalMustExist(literal);
        if (now.status[literal / 2] != 0) {
            throw new IllegalStateException();
        }
        Set<Integer> t = propagation(Set.of(literal), -1);
        if (t == null) {
            return NONE;
        }
        int result = 0;
        for (int l : t) {
            result += 1 << l;
        }
        return result;
    }

    boolean reachable(int from, int to) {
        literalMustExist(from);
        literalMustExist(to);
        return reaches(from, to);
    }

    int representative(int literal) {
        literalMustExist(literal);
        return lowestEqual(literal);
    }

    // ---- stack, models

    int rowCount() {
        return now.rows.size();
    }

    int row(int index, int what) {
        if (index < 0 || index >= now.rows.size()) {
            throw new IndexOutOfBoundsException();
        }
        if (what < 0 || what > 2) {
            throw new IllegalArgumentException();
        }
        Row row = now.rows.get(index);
        return what == 2 ? row.witness() : side(row.clause(), what == 0);
    }

    int extend(int assignment) {
        assignmentMustExist(assignment);
        return satisfiesAll(assignment, now.list) ? extendIt(assignment) : NONE;
    }

    private int extendIt(int assignment) {
        boolean[] values = new boolean[now.v];
        for (int v = 0; v < now.v; v++) {
            values[v] = now.status[v] == 0 && (assignment >> v & 1) == 1;
        }
        for (int i = now.rows.size() - 1; i >= 0; i--) {
            boolean satisfied = false;
            for (int l : now.rows.get(i).clause()) {
                satisfied |= values[l / 2] == (l % 2 == 0);
            }
            if (!satisfied) {
                int witness = now.rows.get(i).witness();
                values[witness / 2] = witness % 2 == 0;
            }
        }
        int result = 0;
        for (int v = 0; v < now.v; v++) {
            result += values[v] ? 1 << v : 0;
        }
        return result;
    }

    private boolean onlyActive(int assignment) {
        for (int v = 0; v < now.v; v++) {
            if (now.status[v] != 0 && (assignment >> v & 1) == 1) {
                return false;
            }
        }
        return true;
    }

    int solve() {
        for (int a = 0; a < 1 << now.v; a++) {
            if (onlyActive(a) && satisfiesAll(a, now.list)) {
                return extendIt(a);
            }
        }
        return NONE;
    }

    int unsatisfied(int assignment) {
        assignmentMustExist(assignment);
        int result = 0;
        for (SortedSet<Integer> clause : now.originals) {
            result += satisfies(assignment, clause) ? 0 : 1;
        }
        return result;
    }

    int models(boolean original) {
        int result = 0;
        for (int a = 0; a < 1 << now.v; a++) {
            if (original ? satisfiesAll(a, now.originals) : onlyActive(a) && satisfiesAll(a, now.list)) {
                result++;
            }
        }
        return result;
    }

    // ---- predictions, state

    int predict(int technique, boolean literals) {
        techniqueMustExist(technique);
        Content before = now;
        now = before.copy();
        use(technique);
        int result = literals ? literalCount() : clauseCount();
        now = before;
        return result;
    }

    int bestTechnique() {
        int best = 0;
        for (int t = 1; t < 10; t++) {
            int difference = predict(t, true) - predict(best, true);
            if (difference < 0 || difference == 0 && predict(t, false) < predict(best, false)) {
                best = t;
            }
        }
        return best;
    }

    long digest() {
        List<Long> values = new ArrayList<>();
        values.add((long) now.v);
        values.add((long) now.growth);
        values.add(isContradictory() ? 1L : 0L);
        values.add((long) now.list.size());
        for (SortedSet<Integer> clause : now.list) {
            values.add((long) side(clause, true));
            values.add((long) side(clause, false));
        }
        values.add((long) now.originals.size());
        for (SortedSet<Integer> clause : now.originals) {
            values.add((long) side(clause, true));
            values.add((long) side(clause, false));
        }
        for (int v = 0; v < now.v; v++) {
            values.add((long) now.status[v]);
            values.add((long) now.value[v]);
        }
        values.add((long) now.rows.size());
        for (int i = 0; i < now.rows.size(); i++) {
            for (int what = 0; what < 3; what++) {
                values.add((long) row(i, what));
            }
        }
        for (int t = 0; t < 10; t++) {
            values.add((long) now.totals[t]);
        }
        values.add((long) text.length());
        values.add((long) saved.size());
        long h = 3079;
        for (long v : values) {
            h = 31 * h + v;
        }
        return h;
    }
}
