/**
 * A preprocessor for propositional formulas in conjunctive normal form, as ../shared/DOC.md tells it.
 *
 * <p>Inside, every set of literals (a clause, the result of a propagation, the true literals of an assignment) is one
 * int in which bit k stands for literal k. So a subset, a complement or a clash is a matter of a few bit operations,
 * and the ascending order of the literals is the order of the bits. Only the face speaks of positive and negative
 * sets of variables.
 *
 * <p>Everything that a call needs is made by the constructor and used again; no call makes an object.
 */
public final class CnfPreprocessor {

    /** There is no such thing. */
    public static final int NONE = -1;

    private static final int MOST_VARIABLES = 10;
    private static final int FIRST_VARIABLES = 8;
    private static final int MOST_LITERALS = 2 * MOST_VARIABLES;
    private static final int MOST_ASSIGNMENTS = 1 << MOST_VARIABLES;
    private static final int MOST_ORIGINALS = 32;
    private static final int MOST_CLAUSES = 48;
    private static final int MOST_GROWTH = 8;
    private static final int MOST_ROUNDS = 9;
    private static final int MOST_SAVED = 6;
    private static final int MOST_ROWS = 120;

    /** Fixing and substituting ignore MOST_ROWS, but each variable can add at most two rows in this way. */
    private static final int ROOM_FOR_ROWS = MOST_ROWS + 2 * MOST_VARIABLES;

    /** 24 clauses with a positive literal and 24 with its complement have the most pairs. */
    private static final int MOST_RESOLVENTS = (MOST_CLAUSES / 2) * (MOST_CLAUSES / 2);

    /** Each pair but the last one adds a literal to the extension. */
    private static final int MOST_PAIRS = MOST_VARIABLES + 1;

    /** Behind each pair but the last one the literals are examined again from the lowest one on. */
    private static final int MOST_EXAMINED = (MOST_PAIRS + 1) * MOST_LITERALS;

    private static final int MOST_BYTES = 160;
    private static final int MOST_LETTERS = 20;
    private static final int BLANK = 32;
    private static final int LINE_FEED = 10;

    /** A clause of a text takes at least two bytes: 0 and a blank (which the last clause may lack). */
    private static final int MOST_READ = MOST_BYTES / 2 + 1;

    /** Far above what a repeated step can need: a step removes a literal, a clause or a variable. */
    private static final int MOST_STEPS = 1000000;

    /** The positive literals of all variables, as a set of literals. */
    private static final int POSITIVES = 0x55555;
    private static final int ALL_VARIABLES = (1 << MOST_VARIABLES) - 1;

    private static final int ACTIVE = 0;
    private static final int FIXED = 1;
    private static final int ELIMINATED = 2;
    private static final int SUBSTITUTED = 3;

    private static final int UNITS = 0;
    private static final int PURE_LITERALS = 1;
    private static final int SUBSUMPTION = 2;
    private static final int STRENGTHENING = 3;
    private static final int ELIMINATION = 4;
    private static final int BLOCKED_CLAUSES = 5;
    private static final int COVERED_CLAUSES = 6;
    private static final int FAILED_LITERALS = 7;
    private static final int EQUIVALENCES = 8;
    private static final int VIVIFICATION = 9;
    private static final int TECHNIQUE_COUNT = 10;

    /** The letter of each technique stands at its number. */
    private static final String LETTERS = "upstebcfqv";

    private final State state;
    private final State trial;
    private final State[] saved;
    private int savedCount;
    private final Text text;
    private final ClauseReader reader;
    private final ClauseSource source;
    private final Techniques techniques;

    /** Creates a formula without clauses, with 8 variables. */
    public CnfPreprocessor() {
        state = new State();
        trial = new State();
        saved = new State[MOST_SAVED];
        for (int i = 0; i < saved.length; i++) {
            saved[i] = new State();
        }
        savedCount = 0;
        text = new Text();
        reader = new ClauseReader();
        source = new ClauseSource();
        techniques = new Techniques();
    }

    // ---- formulas

    public int reset(int variables) throws IllegalArgumentException {
        if (variables < 1 || variables > MOST_VARIABLES) {
            throw new IllegalArgumentException("the number of variables is out of range");
        }
        int before = state.variables;
        saveState();
        state.beginAnew(variables);
        return before;
    }

    public int addClause(int positive, int negative) throws IllegalArgumentException, IllegalStateException {
        int outside = ~state.allVariables();
        if ((positive & outside) != 0 || (negative & outside) != 0 || (positive & negative) != 0) {
            throw new IllegalArgumentException("these are not the sets of a clause");
        }
        requireRoomFor(1);
        saveState();
        state.addOriginal(setOf(positive, negative));
        return state.originals.size();
    }

    public int generate(int start, int count, int width) throws IllegalArgumentException, IllegalStateException {
        if (start < 0 || count < 1 || count > MOST_ORIGINALS || width < 1 || width > state.variables) {
            throw new IllegalArgumentException("start, count or width is out of range");
        }
        requireRoomFor(count);
        saveState();
        source.begin(start, state.variables);
        for (int i = 0; i < count; i++) {
            state.addOriginal(source.nextClause(width));
        }
        return state.originals.size();
    }

    public int originalCount() {
        return state.originals.size();
    }

    public int original(int index, boolean positive) throws IndexOutOfBoundsException {
        if (index < 0 || index >= state.originals.size()) {
            throw new IndexOutOfBoundsException("there is no such original clause");
        }
        return half(state.originals.at(index), positive);
    }

    public int clauseCount() {
        return state.list.size();
    }

    public int literalCount() {
        return state.list.countLiterals();
    }

    public int clause(int index, boolean positive) throws IndexOutOfBoundsException {
        requireClause(index);
        return half(state.list.at(index), positive);
    }

    public boolean contradictory() {
        return state.list.isContradictory();
    }

    public int status(int variable) throws IndexOutOfBoundsException {
        requireVariable(variable);
        return state.statusOf(variable);
    }

    public int value(int variable) throws IndexOutOfBoundsException {
        requireVariable(variable);
        return state.knownOf(variable);
    }

    public int occurrences(int literal) throws IndexOutOfBoundsException {
        requireLiteral(literal);
        return state.list.countContaining(literal);
    }

    // ---- texts

    public int append(int value) throws IllegalArgumentException, IllegalStateException {
        if (value < 0 || value > 127) {
            throw new IllegalArgumentException("the byte is out of range");
        }
        if (text.isFull()) {
            throw new IllegalStateException("the text is full");
        }
        text.addByte(value);
        return text.size();
    }

    public int clearText() {
        int before = text.size();
        text.clear();
        return before;
    }

    public int readClauses() throws IllegalStateException {
        requireRoomFor(0);
        int error = readText();
        if (error != NONE) {
            return -1 - error;
        }
        ClauseList clauses = reader.clauses;
        requireRoomFor(clauses.size());
        saveState();
        for (int i = 0; i < clauses.size(); i++) {
            state.addOriginal(clauses.at(i));
        }
        return clauses.size();
    }

    public int outputByte(int index) throws IllegalArgumentException {
        if (index < 0) {
            throw new IllegalArgumentException("the index is negative");
        }
        int left = index;
        for (int i = 0; i < state.list.size(); i++) {
            int set = state.list.at(i);
            int length = lengthOfClause(set);
            if (left < length) {
                return byteOfClause(set, left);
            }
            left -= length;
        }
        return NONE;
    }

    // ---- techniques

    public int apply(int technique) throws IllegalArgumentException {
        requireTechnique(technique);
        saveState();
        return techniques.perform(state, technique);
    }

    public int run(int rounds) throws IllegalArgumentException {
        if (rounds < 1 || rounds > MOST_ROUNDS) {
            throw new IllegalArgumentException("the number of rounds is out of range");
        }
        int error = text.scheduleError();
        if (error != NONE) {
            return -1 - error;
        }
        saveState();
        for (int round = 1; round <= rounds; round++) {
            boolean idle = true;
            for (int i = 0; i < text.size(); i++) {
                int technique = text.techniqueAt(i);
                if (technique != NONE && techniques.perform(state, technique) != 0) {
                    idle = false;
                }
            }
            if (idle || state.list.isContradictory()) {
                return round;
            }
        }
        return rounds;
    }

    public int eliminate(int variable) throws IndexOutOfBoundsException, IllegalStateException {
        requireVariable(variable);
        if (!techniques.findElimination(state, variable)) {
            throw new IllegalStateException("the variable cannot be eliminated");
        }
        saveState();
        techniques.eliminateFound(state, variable);
        state.addToTotal(ELIMINATION, 1);
        return techniques.resolvents.found.size();
    }

    public int setGrowth(int growth) throws IllegalArgumentException {
        if (growth < 0 || growth > MOST_GROWTH) {
            throw new IllegalArgumentException("the growth is out of range");
        }
        int before = state.growth;
        saveState();
        state.growth = growth;
        return before;
    }

    public int total(int technique) throws IllegalArgumentException {
        requireTechnique(technique);
        return state.totalOf(technique);
    }

    public int undo() throws IllegalStateException {
        if (savedCount < 1 || savedCount > saved.length) {
            throw new IllegalStateException("no state is saved");
        }
        State latest = saved[savedCount - 1];
        if (latest != null) {
            state.copyFrom(latest);
        }
        savedCount--;
        return savedCount;
    }

    // ---- queries about variables and clauses

    public boolean canEliminate(int variable) throws IndexOutOfBoundsException {
        requireVariable(variable);
        return techniques.findElimination(state, variable);
    }

    public int resolventCount(int variable) throws IndexOutOfBoundsException, IllegalStateException {
        requireVariable(variable);
        requireActive(variable);
        techniques.resolvents.find(state.list, variable, MOST_RESOLVENTS);
        return techniques.resolvents.found.size();
    }

    public int resolvent(int variable, int index, boolean positive)
            throws IndexOutOfBoundsException, IllegalStateException {
        requireVariable(variable);
        requireActive(variable);
        techniques.resolvents.find(state.list, variable, MOST_RESOLVENTS);
        ClauseList found = techniques.resolvents.found;
        if (index < 0 || index >= found.size()) {
            throw new IndexOutOfBoundsException("there is no such resolvent");
        }
        return half(found.at(index), positive);
    }

    public int blockingLiteral(int index) throws IndexOutOfBoundsException {
        requireClause(index);
        return lowestBlocking(state.list, index);
    }

    public int coverPairs(int index) throws IndexOutOfBoundsException {
        requireClause(index);
        Extension extended = techniques.extension;
        extended.find(state.list, index);
        return extended.covered ? extended.pairs.size() : NONE;
    }

    public int extension(int index, boolean positive) throws IndexOutOfBoundsException {
        requireClause(index);
        Extension extended = techniques.extension;
        extended.find(state.list, index);
        return half(extended.literals, positive);
    }

    public int vivified(int index, boolean positive) throws IndexOutOfBoundsException {
        requireClause(index);
        int result = vivify(state.list, index);
        return result == NONE ? 0 : half(result, positive);
    }

    public boolean implied(int index) throws IndexOutOfBoundsException {
        requireClause(index);
        return closure(state.list, index, complements(state.list.at(index))) == NONE;
    }

    public int propagate(int literal) throws IndexOutOfBoundsException, IllegalStateException {
        requireLiteral(literal);
        requireActive(literal >> 1);
        return closure(state.list, NONE, 1 << literal);
    }

    public boolean reachable(int from, int to) throws IndexOutOfBoundsException {
        requireLiteral(from);
        requireLiteral(to);
        techniques.implications.find(state.list);
        return techniques.implications.leads(from, to);
    }

    public int representative(int literal) throws IndexOutOfBoundsException {
        requireLiteral(literal);
        techniques.implications.find(state.list);
        return techniques.implications.lowestEquivalent(literal);
    }

    // ---- stack, models

    public int rowCount() {
        return state.rows;
    }

    public int row(int index, int what) throws IndexOutOfBoundsException, IllegalArgumentException {
        if (index < 0 || index >= state.rows) {
            throw new IndexOutOfBoundsException("there is no such row");
        }
        if (what < 0 || what > 2) {
            throw new IllegalArgumentException("a row has only 0, 1 and 2");
        }
        return what == 2 ? state.witnessOfRow(index) : half(state.setOfRow(index), what == 0);
    }

    public int extend(int assignment) throws IllegalArgumentException {
        requireAssignment(assignment);
        if (!state.list.isSatisfied(trueLiterals(assignment))) {
            return NONE;
        }
        return state.reconstruct(assignment);
    }

    public int solve() {
        int active = state.activeVariables();
        int assignment = 0;
        for (int tried = 0; tried < MOST_ASSIGNMENTS; tried++) {
            if (state.list.isSatisfied(trueLiterals(assignment))) {
                return state.reconstruct(assignment);
            }
            assignment = nextSubset(assignment, active);
            if (assignment == 0) {
                return NONE;
            }
        }
        return NONE;
    }

    public int unsatisfied(int assignment) throws IllegalArgumentException {
        requireAssignment(assignment);
        return state.originals.countFalsified(trueLiterals(assignment));
    }

    public int models(boolean original) {
        return original
                ? countModels(state.originals, state.allVariables())
                : countModels(state.list, state.activeVariables());
    }

    // ---- predictions, state

    public int predict(int technique, boolean literals) throws IllegalArgumentException {
        requireTechnique(technique);
        trial.copyFrom(state);
        techniques.perform(trial, technique);
        return literals ? trial.list.countLiterals() : trial.list.size();
    }

    public int bestTechnique() {
        int best = 0;
        int fewestLiterals = Integer.MAX_VALUE;
        int fewestClauses = Integer.MAX_VALUE;
        for (int technique = 0; technique < TECHNIQUE_COUNT; technique++) {
            trial.copyFrom(state);
            techniques.perform(trial, technique);
            int literals = trial.list.countLiterals();
            int clauses = trial.list.size();
            if (literals < fewestLiterals || literals == fewestLiterals && clauses < fewestClauses) {
                best = technique;
                fewestLiterals = literals;
                fewestClauses = clauses;
            }
        }
        return best;
    }

    public long digest() {
        long hash = mixed(3079, state.variables);
        hash = mixed(hash, state.growth);
        hash = mixed(hash, state.list.isContradictory() ? 1 : 0);
        hash = mixedClauses(hash, state.list);
        hash = mixedClauses(hash, state.originals);
        for (int v = 0; v < state.variables; v++) {
            hash = mixed(mixed(hash, state.statusOf(v)), state.knownOf(v));
        }
        hash = mixed(hash, state.rows);
        for (int i = 0; i < state.rows; i++) {
            hash = mixed(mixedSet(hash, state.setOfRow(i)), state.witnessOfRow(i));
        }
        for (int technique = 0; technique < TECHNIQUE_COUNT; technique++) {
            hash = mixed(hash, state.totalOf(technique));
        }
        return mixed(mixed(hash, text.size()), savedCount);
    }

    // ---- what calls of the face refuse

    private void requireVariable(int variable) {
        if (variable < 0 || variable >= state.variables) {
            throw new IndexOutOfBoundsException("there is no such variable");
        }
    }

    private void requireLiteral(int literal) {
        if (literal < 0 || literal >= 2 * state.variables) {
            throw new IndexOutOfBoundsException("there is no such literal");
        }
    }

    private void requireClause(int index) {
        if (index < 0 || index >= state.list.size()) {
            throw new IndexOutOfBoundsException("there is no such clause");
        }
    }

    private void requireActive(int variable) {
        if (!state.isActive(variable)) {
            throw new IllegalStateException("the variable is not active");
        }
    }

    private void requireTechnique(int technique) {
        if (technique < 0 || technique >= TECHNIQUE_COUNT) {
            throw new IllegalArgumentException("there is no such technique");
        }
    }

    private void requireAssignment(int assignment) {
        if (assignment < 0 || assignment > state.allVariables()) {
            throw new IllegalArgumentException("the assignment is out of range");
        }
    }

    private void requireRoomFor(int clauses) {
        if (state.activeVariables() != state.allVariables() || state.rows != 0 || state.list.isContradictory()) {
            throw new IllegalStateException("no clause can be added any more");
        }
        if (state.originals.size() + clauses > MOST_ORIGINALS) {
            throw new IllegalStateException("there would be too many original clauses");
        }
    }

    // ---- what calls of the face share

    /** The oldest state gives its place to the new one when all places are taken. */
    private void saveState() {
        if (savedCount >= saved.length) {
            State oldest = saved[0];
            for (int i = 1; i < saved.length; i++) {
                saved[i - 1] = saved[i];
            }
            saved[saved.length - 1] = oldest;
            savedCount = saved.length - 1;
        }
        State place = savedCount >= 0 ? saved[savedCount] : null;
        if (place != null) {
            place.copyFrom(state);
            savedCount++;
        }
    }

    /** Returns the syntax error position, or NONE; the clauses are those of the reader afterwards. */
    private int readText() {
        reader.begin(state.variables);
        for (int i = 0; i < text.size(); i++) {
            if (!reader.takes(text.at(i))) {
                return i;
            }
        }
        return reader.isComplete() ? NONE : text.size();
    }

    private static int countModels(ClauseList clauses, int variables) {
        int count = 0;
        int assignment = 0;
        for (int tried = 0; tried < MOST_ASSIGNMENTS; tried++) {
            if (clauses.isSatisfied(trueLiterals(assignment))) {
                count++;
            }
            assignment = nextSubset(assignment, variables);
            if (assignment == 0) {
                return count;
            }
        }
        return count;
    }

    private static long mixed(long hash, long value) {
        return 31 * hash + value;
    }

    private static long mixedSet(long hash, int set) {
        return mixed(mixed(hash, half(set, true)), half(set, false));
    }

    private static long mixedClauses(long hash, ClauseList clauses) {
        long result = mixed(hash, clauses.size());
        for (int i = 0; i < clauses.size(); i++) {
            result = mixedSet(result, clauses.at(i));
        }
        return result;
    }

    // ---- the list as a text

    private static int lengthOfClause(int set) {
        int length = 2;
        for (int literal = 0; literal < MOST_LITERALS; literal++) {
            if (contains(set, literal)) {
                length += lengthOfLiteral(literal);
            }
        }
        return length;
    }

    private static int byteOfClause(int set, int index) {
        int left = index;
        for (int literal = 0; literal < MOST_LITERALS; literal++) {
            if (contains(set, literal)) {
                int length = lengthOfLiteral(literal);
                if (left < length) {
                    return byteOfLiteral(literal, left);
                }
                left -= length;
            }
        }
        return left == 0 ? '0' : LINE_FEED;
    }

    /** With the blank behind it. */
    private static int lengthOfLiteral(int literal) {
        int digits = (literal >> 1) + 1 >= 10 ? 2 : 1;
        return (literal & 1) + digits + 1;
    }

    private static int byteOfLiteral(int literal, int index) {
        int number = (literal >> 1) + 1;
        int behindSign = index - (literal & 1);
        if (behindSign < 0) {
            return '-';
        }
        int behindTens = number >= 10 ? behindSign - 1 : behindSign;
        if (behindTens < 0) {
            return '0' + number / 10;
        }
        return behindTens == 0 ? '0' + number % 10 : BLANK;
    }

    // ---- sets of literals

    /** The positive literals of a set of variables: bit v moves to bit 2 * v. */
    private static int positiveLiterals(int variables) {
        int x = variables & ALL_VARIABLES;
        x = (x | x << 8) & 0x00FF00FF;
        x = (x | x << 4) & 0x0F0F0F0F;
        x = (x | x << 2) & 0x33333333;
        return (x | x << 1) & 0x55555555;
    }

    /** The variables whose positive literals are in the set: bit 2 * v moves to bit v. */
    private static int variablesOf(int set) {
        int x = set & POSITIVES;
        x = (x | x >> 1) & 0x33333333;
        x = (x | x >> 2) & 0x0F0F0F0F;
        x = (x | x >> 4) & 0x00FF00FF;
        return (x | x >> 8) & ALL_VARIABLES;
    }

    private static int setOf(int positive, int negative) {
        return positiveLiterals(positive) | positiveLiterals(negative) << 1;
    }

    private static int half(int set, boolean positive) {
        return variablesOf(positive ? set : set >> 1);
    }

    private static int trueLiterals(int assignment) {
        return setOf(assignment, ~assignment);
    }

    private static boolean contains(int set, int literal) {
        return (set >> literal & 1) != 0;
    }

    private static int complements(int set) {
        return (set & POSITIVES) << 1 | set >> 1 & POSITIVES;
    }

    private static boolean hasComplementary(int set) {
        return (set & set >> 1 & POSITIVES) != 0;
    }

    private static int pairOf(int literal, int other) {
        return 1 << literal | 1 << other;
    }

    /** The next greater subset of a set of variables; 0 behind the greatest one. */
    private static int nextSubset(int subset, int variables) {
        return (subset - variables) & variables;
    }

    // ---- propagation and what follows from it

    /** The propagation of a set over a list without one of its clauses; NONE if it fails. */
    private static int closure(ClauseList list, int except, int start) {
        int result = start;
        // Each round but the last one adds a literal.
        for (int round = 0; round <= MOST_LITERALS; round++) {
            int before = result;
            for (int i = 0; i < list.size(); i++) {
                int set = list.at(i);
                if (i == except || (set & result) != 0) {
                    continue;
                }
                int open = set & ~complements(result);
                if (open == 0) {
                    return NONE;
                }
                if (Integer.bitCount(open) == 1) {
                    result |= open;
                }
            }
            if (result == before) {
                return result;
            }
        }
        return result;
    }

    /** The vivification of a clause; NONE if its first propagation fails. */
    private static int vivify(ClauseList list, int index) {
        int set = list.at(index);
        if (Integer.bitCount(set) < 2) {
            return set;
        }
        int known = closure(list, index, 0);
        int kept = 0;
        for (int literal = 0; literal < MOST_LITERALS && known != NONE; literal++) {
            if (!contains(set, literal) || contains(known, literal ^ 1)) {
                continue;
            }
            kept |= 1 << literal;
            if (contains(known, literal)) {
                return kept;
            }
            known = closure(list, index, known | 1 << (literal ^ 1));
        }
        // The first propagation has failed if and only if no literal was examined.
        return known == NONE && kept == 0 ? NONE : kept;
    }

    // ---- blocked clauses

    private static int lowestBlocking(ClauseList list, int index) {
        int set = list.at(index);
        for (int literal = 0; literal < MOST_LITERALS; literal++) {
            if (contains(set, literal) && isBlocking(list, set, literal)) {
                return literal;
            }
        }
        return NONE;
    }

    private static boolean isBlocking(ClauseList list, int set, int literal) {
        int clashing = complements(set & ~(1 << literal));
        for (int i = 0; i < list.size(); i++) {
            int other = list.at(i);
            if (contains(other, literal ^ 1) && (other & clashing) == 0) {
                return false;
            }
        }
        return true;
    }

    /** A list of sets of literals with a fixed room. */
    private static final class ClauseList {
        private final int[] sets;
        private int count;

        ClauseList(int room) {
            sets = new int[Math.max(room, 0)];
            count = 0;
        }

        int size() {
            return count;
        }

        int at(int index) {
            return index >= 0 && index < count ? sets[index] : 0;
        }

        void add(int set) {
            if (count < sets.length) {
                sets[count] = set;
                count++;
            }
        }

        void put(int index, int set) {
            if (index >= 0 && index < count) {
                sets[index] = set;
            }
        }

        void removeAt(int index) {
            if (index < 0 || index >= count) {
                return;
            }
            for (int i = index + 1; i < count; i++) {
                sets[i - 1] = sets[i];
            }
            count--;
        }

        void clear() {
            count = 0;
        }

        /** The list becomes the empty clause alone. */
        void collapse() {
            clear();
            add(0);
        }

        boolean isContradictory() {
            return count == 1 && at(0) == 0;
        }

        void copyFrom(ClauseList other) {
            clear();
            for (int i = 0; i < other.count; i++) {
                add(other.at(i));
            }
        }

        boolean has(int set) {
            for (int i = 0; i < count; i++) {
                if (sets[i] == set) {
                    return true;
                }
            }
            return false;
        }

        int countLiterals() {
            int literals = 0;
            for (int i = 0; i < count; i++) {
                literals += Integer.bitCount(sets[i]);
            }
            return literals;
        }

        int countContaining(int literal) {
            int clauses = 0;
            for (int i = 0; i < count; i++) {
                if (contains(sets[i], literal)) {
                    clauses++;
                }
            }
            return clauses;
        }

        boolean isSatisfied(int trueOnes) {
            for (int i = 0; i < count; i++) {
                if ((sets[i] & trueOnes) == 0) {
                    return false;
                }
            }
            return true;
        }

        int countFalsified(int trueOnes) {
            int clauses = 0;
            for (int i = 0; i < count; i++) {
                if ((sets[i] & trueOnes) == 0) {
                    clauses++;
                }
            }
            return clauses;
        }

        /** Removes all clauses that contain at least one of some literals. */
        void removeContaining(int literals) {
            int kept = 0;
            for (int i = 0; i < count; i++) {
                if ((sets[i] & literals) == 0) {
                    sets[kept] = sets[i];
                    kept++;
                }
            }
            count = kept;
        }

        /** Removes some literals from all clauses; tells whether a clause has become empty. */
        boolean strip(int literals) {
            boolean emptied = false;
            for (int i = 0; i < count; i++) {
                sets[i] &= ~literals;
                emptied = emptied || sets[i] == 0;
            }
            return emptied;
        }
    }

    /** Everything that a call can undo. */
    private static final class State {
        int variables;
        int growth;
        int rows;
        final ClauseList list = new ClauseList(MOST_CLAUSES);
        final ClauseList originals = new ClauseList(MOST_ORIGINALS);
        private final int[] statuses = new int[MOST_VARIABLES];
        private final int[] known = new int[MOST_VARIABLES];
        private final int[] totals = new int[TECHNIQUE_COUNT];
        private final int[] rowSets = new int[ROOM_FOR_ROWS];
        private final int[] rowWitnesses = new int[ROOM_FOR_ROWS];

        State() {
            beginAnew(FIRST_VARIABLES);
        }

        void beginAnew(int newVariables) {
            variables = newVariables;
            growth = 0;
            rows = 0;
            list.clear();
            originals.clear();
            for (int v = 0; v < MOST_VARIABLES; v++) {
                statuses[v] = ACTIVE;
                known[v] = NONE;
            }
            for (int technique = 0; technique < TECHNIQUE_COUNT; technique++) {
                totals[technique] = 0;
            }
        }

        void copyFrom(State other) {
            variables = other.variables;
            growth = other.growth;
            list.copyFrom(other.list);
            originals.copyFrom(other.originals);
            for (int v = 0; v < MOST_VARIABLES; v++) {
                statuses[v] = other.statuses[v];
                known[v] = other.known[v];
            }
            for (int technique = 0; technique < TECHNIQUE_COUNT; technique++) {
                totals[technique] = other.totals[technique];
            }
            rows = 0;
            for (int i = 0; i < other.rows; i++) {
                pushRow(other.setOfRow(i), other.witnessOfRow(i));
            }
        }

        int allVariables() {
            return (1 << variables) - 1;
        }

        int activeVariables() {
            int active = 0;
            for (int v = 0; v < variables; v++) {
                if (isActive(v)) {
                    active |= 1 << v;
                }
            }
            return active;
        }

        boolean isActive(int variable) {
            return statusOf(variable) == ACTIVE;
        }

        int statusOf(int variable) {
            return variable >= 0 && variable < MOST_VARIABLES ? statuses[variable] : NONE;
        }

        int knownOf(int variable) {
            return variable >= 0 && variable < MOST_VARIABLES ? known[variable] : NONE;
        }

        void retire(int variable, int status, int value) {
            if (variable >= 0 && variable < MOST_VARIABLES) {
                statuses[variable] = status;
                known[variable] = value;
            }
        }

        int totalOf(int technique) {
            return technique >= 0 && technique < TECHNIQUE_COUNT ? totals[technique] : 0;
        }

        void addToTotal(int technique, int result) {
            if (technique >= 0 && technique < TECHNIQUE_COUNT) {
                totals[technique] += result;
            }
        }

        int setOfRow(int index) {
            return index >= 0 && index < ROOM_FOR_ROWS ? rowSets[index] : 0;
        }

        int witnessOfRow(int index) {
            return index >= 0 && index < ROOM_FOR_ROWS ? rowWitnesses[index] : 0;
        }

        void pushRow(int set, int witness) {
            if (rows >= 0 && rows < ROOM_FOR_ROWS) {
                rowSets[rows] = set;
                rowWitnesses[rows] = witness;
                rows++;
            }
        }

        void addOriginal(int set) {
            originals.add(set);
            include(set);
        }

        /** Appends a clause to the list, in which nothing stands beside the empty clause. */
        void include(int set) {
            if (list.isContradictory()) {
                return;
            }
            if (set == 0) {
                list.collapse();
            } else {
                list.add(set);
            }
        }

        void fix(int literal) {
            retire(literal >> 1, FIXED, 1 - (literal & 1));
            pushRow(1 << literal, literal);
            list.removeContaining(1 << literal);
            if (list.strip(1 << (literal ^ 1))) {
                list.collapse();
            }
        }

        /** Extends an assignment by the rows, the last one first. */
        int reconstruct(int assignment) {
            int result = assignment & activeVariables();
            for (int i = rows - 1; i >= 0; i--) {
                if ((setOfRow(i) & trueLiterals(result)) == 0) {
                    int witness = witnessOfRow(i);
                    int bit = 1 << (witness >> 1);
                    result = (witness & 1) == 0 ? result | bit : result & ~bit;
                }
            }
            return result;
        }
    }

    /** The resolvents of a variable. */
    private static final class Resolvents {
        final ClauseList found = new ClauseList(MOST_RESOLVENTS);

        /** Finds the resolvents, but gives up as soon as there are more than a limit. */
        void find(ClauseList list, int variable, int limit) {
            int positive = 1 << (2 * variable);
            int negative = positive << 1;
            found.clear();
            for (int i = 0; i < list.size(); i++) {
                int set = list.at(i);
                for (int j = 0; j < list.size() && (set & positive) != 0 && found.size() <= limit; j++) {
                    int other = list.at(j);
                    int resolved = (set | other) & ~(positive | negative);
                    if ((other & negative) != 0 && !hasComplementary(resolved) && !found.has(resolved)) {
                        found.add(resolved);
                    }
                }
            }
        }
    }

    /** The extension of a clause of a list. */
    private static final class Extension {
        final ClauseList pairs = new ClauseList(MOST_PAIRS);
        private final int[] witnesses = new int[MOST_PAIRS];
        int literals;
        boolean covered;

        void find(ClauseList list, int index) {
            literals = list.at(index);
            covered = false;
            pairs.clear();
            int literal = 0;
            for (int step = 0; step < MOST_EXAMINED && literal < MOST_LITERALS && !covered; step++) {
                int shared = contains(literals, literal) ? sharedByPartners(list, index, literal) : 0;
                if (shared == 0) {
                    literal++;
                    continue;
                }
                addPair(literal);
                if (shared == NONE) {
                    covered = true;
                } else {
                    literals |= shared;
                    literal = 0;
                }
            }
        }

        int witnessAt(int index) {
            return index >= 0 && index < MOST_PAIRS ? witnesses[index] : 0;
        }

        private void addPair(int literal) {
            int place = pairs.size();
            if (place < MOST_PAIRS) {
                witnesses[place] = literal;
                pairs.add(literals);
            }
        }

        /** The set X of the document; NONE if its R is empty. */
        private int sharedByPartners(ClauseList list, int index, int literal) {
            int clashing = complements(literals & ~(1 << literal));
            int shared = NONE;
            for (int i = 0; i < list.size(); i++) {
                int other = list.at(i);
                if (i != index && contains(other, literal ^ 1) && (other & clashing) == 0) {
                    shared &= other;
                }
            }
            return shared == NONE ? NONE : shared & ~literals & ~(1 << (literal ^ 1));
        }
    }

    /** The implications of a list. */
    private static final class Implications {
        private final int[] reached = new int[MOST_LITERALS];

        void find(ClauseList list) {
            for (int literal = 0; literal < MOST_LITERALS; literal++) {
                reached[literal] = 1 << literal;
            }
            for (int i = 0; i < list.size(); i++) {
                if (Integer.bitCount(list.at(i)) == 2) {
                    addImplications(list.at(i));
                }
            }
            for (int middle = 0; middle < MOST_LITERALS; middle++) {
                for (int from = 0; from < MOST_LITERALS; from++) {
                    if (contains(reached[from], middle)) {
                        reached[from] |= reached[middle];
                    }
                }
            }
        }

        private void addImplications(int set) {
            for (int literal = 0; literal < MOST_LITERALS; literal++) {
                int complement = literal ^ 1;
                if (contains(set, literal) && complement < MOST_LITERALS) {
                    reached[complement] |= set & ~(1 << literal);
                }
            }
        }

        boolean leads(int from, int to) {
            return from >= 0 && from < MOST_LITERALS && (reached[from] >> to & 1) != 0;
        }

        int lowestEquivalent(int literal) {
            for (int other = 0; other < literal; other++) {
                if (leads(literal, other) && leads(other, literal)) {
                    return other;
                }
            }
            return literal;
        }

        /** All literals of a set replaced by their representatives. */
        int replaced(int set) {
            int result = 0;
            for (int literal = 0; literal < MOST_LITERALS; literal++) {
                if (contains(set, literal)) {
                    result |= 1 << lowestEquivalent(literal);
                }
            }
            return result;
        }
    }

    /** The techniques, and what they need to work with. */
    private static final class Techniques {
        final Resolvents resolvents = new Resolvents();
        final Extension extension = new Extension();
        final Implications implications = new Implications();

        /** Applies a technique, and adds its result to its total. */
        int perform(State s, int technique) {
            int result = 0;
            if (!s.list.isContradictory()) {
                switch (technique) {
                    case UNITS:
                        result = fixUnits(s);
                        break;
                    case PURE_LITERALS:
                        result = fixPureLiterals(s);
                        break;
                    case SUBSUMPTION:
                        result = removeSubsumed(s.list);
                        break;
                    case STRENGTHENING:
                        result = strengthenAll(s.list);
                        break;
                    case ELIMINATION:
                        result = eliminateAll(s);
                        break;
                    case BLOCKED_CLAUSES:
                        result = removeBlocked(s);
                        break;
                    case COVERED_CLAUSES:
                        result = removeCovered(s);
                        break;
                    case FAILED_LITERALS:
                        result = fixFailedLiterals(s);
                        break;
                    case EQUIVALENCES:
                        result = substituteAll(s);
                        break;
                    case VIVIFICATION:
                        result = vivifyAll(s.list);
                        break;
                    default:
                        break;
                }
            }
            s.addToTotal(technique, result);
            return result;
        }

        private int fixUnits(State s) {
            int fixed = 0;
            for (int step = 0; step < MOST_STEPS; step++) {
                int literal = firstUnit(s.list);
                if (literal == NONE) {
                    return fixed;
                }
                s.fix(literal);
                fixed++;
            }
            return fixed;
        }

        private int firstUnit(ClauseList list) {
            for (int i = 0; i < list.size(); i++) {
                if (Integer.bitCount(list.at(i)) == 1) {
                    return Integer.numberOfTrailingZeros(list.at(i));
                }
            }
            return NONE;
        }

        private int fixPureLiterals(State s) {
            int fixed = 0;
            for (int step = 0; step < MOST_STEPS; step++) {
                int literal = lowestPureLiteral(s);
                if (literal == NONE) {
                    return fixed;
                }
                s.fix(literal);
                fixed++;
            }
            return fixed;
        }

        private int lowestPureLiteral(State s) {
            int present = 0;
            for (int i = 0; i < s.list.size(); i++) {
                present |= s.list.at(i);
            }
            for (int literal = 0; literal < 2 * s.variables; literal++) {
                if (s.isActive(literal >> 1) && contains(present, literal) && !contains(present, literal ^ 1)) {
                    return literal;
                }
            }
            return NONE;
        }

        private int removeSubsumed(ClauseList list) {
            int before = list.size();
            long doomed = 0;
            for (int i = 0; i < before; i++) {
                if (isSubsumed(list, i)) {
                    doomed |= 1L << i;
                }
            }
            for (int i = before - 1; i >= 0; i--) {
                if ((doomed >> i & 1) != 0) {
                    list.removeAt(i);
                }
            }
            return before - list.size();
        }

        private boolean isSubsumed(ClauseList list, int index) {
            int set = list.at(index);
            for (int i = 0; i < list.size(); i++) {
                int other = list.at(i);
                boolean subset = (other & ~set) == 0;
                if (subset && (other != set || i < index)) {
                    return true;
                }
            }
            return false;
        }

        private int strengthenAll(ClauseList list) {
            int removed = 0;
            for (int step = 0; step < MOST_STEPS; step++) {
                if (!strengthenFirst(list)) {
                    return removed;
                }
                removed++;
            }
            return removed;
        }

        private boolean strengthenFirst(ClauseList list) {
            for (int i = 0; i < list.size(); i++) {
                int literal = lowestSuperfluous(list, i);
                if (literal != NONE) {
                    list.put(i, list.at(i) & ~(1 << literal));
                    if (list.at(i) == 0) {
                        list.collapse();
                    }
                    return true;
                }
            }
            return false;
        }

        private int lowestSuperfluous(ClauseList list, int index) {
            int set = list.at(index);
            int lowest = NONE;
            for (int i = 0; i < list.size(); i++) {
                // What another clause has beyond this one must be the complement of a literal of this one.
                int beyond = list.at(i) & ~set;
                if (i != index && Integer.bitCount(beyond) == 1 && (complements(beyond) & set) != 0) {
                    int literal = Integer.numberOfTrailingZeros(complements(beyond));
                    lowest = lowest == NONE ? literal : Math.min(lowest, literal);
                }
            }
            return lowest;
        }

        private int eliminateAll(State s) {
            int eliminated = 0;
            for (int step = 0; step < MOST_STEPS; step++) {
                int variable = cheapestVariable(s);
                if (variable == NONE || !findElimination(s, variable)) {
                    return eliminated;
                }
                eliminateFound(s, variable);
                eliminated++;
            }
            return eliminated;
        }

        private int cheapestVariable(State s) {
            int cheapest = NONE;
            int lowestCost = Integer.MAX_VALUE;
            for (int v = 0; v < s.variables; v++) {
                if (findElimination(s, v)) {
                    int cost = resolvents.found.size()
                            - s.list.countContaining(2 * v) - s.list.countContaining(2 * v + 1);
                    if (cost < lowestCost) {
                        cheapest = v;
                        lowestCost = cost;
                    }
                }
            }
            return cheapest;
        }

        /** Tells whether a variable can be eliminated; if so, its resolvents are found. */
        boolean findElimination(State s, int variable) {
            int positive = s.list.countContaining(2 * variable);
            int present = positive + s.list.countContaining(2 * variable + 1);
            if (!s.isActive(variable) || present == 0 || s.rows + positive > MOST_ROWS) {
                return false;
            }
            int others = s.list.size() - present;
            int limit = Math.min(present + s.growth, MOST_CLAUSES - others);
            resolvents.find(s.list, variable, limit);
            return resolvents.found.size() <= limit;
        }

        /** Eliminates the variable whose resolvents were found last. */
        void eliminateFound(State s, int variable) {
            for (int i = 0; i < s.list.size(); i++) {
                if (contains(s.list.at(i), 2 * variable)) {
                    s.pushRow(s.list.at(i), 2 * variable);
                }
            }
            s.list.removeContaining(3 << (2 * variable));
            s.retire(variable, ELIMINATED, NONE);
            for (int i = 0; i < resolvents.found.size(); i++) {
                s.include(resolvents.found.at(i));
            }
        }

        private int removeBlocked(State s) {
            int removed = 0;
            for (int step = 0; step < MOST_STEPS; step++) {
                if (s.rows >= MOST_ROWS || !removeFirstBlocked(s)) {
                    return removed;
                }
                removed++;
            }
            return removed;
        }

        private boolean removeFirstBlocked(State s) {
            for (int i = 0; i < s.list.size(); i++) {
                int literal = lowestBlocking(s.list, i);
                if (literal != NONE) {
                    s.pushRow(s.list.at(i), literal);
                    s.list.removeAt(i);
                    return true;
                }
            }
            return false;
        }

        private int removeCovered(State s) {
            int removed = 0;
            for (int step = 0; step < MOST_STEPS; step++) {
                if (!removeFirstCovered(s)) {
                    return removed;
                }
                removed++;
            }
            return removed;
        }

        private boolean removeFirstCovered(State s) {
            for (int i = 0; i < s.list.size(); i++) {
                extension.find(s.list, i);
                if (extension.covered && s.rows + extension.pairs.size() <= MOST_ROWS) {
                    for (int pair = 0; pair < extension.pairs.size(); pair++) {
                        s.pushRow(extension.pairs.at(pair), extension.witnessAt(pair));
                    }
                    s.list.removeAt(i);
                    return true;
                }
            }
            return false;
        }

        private int fixFailedLiterals(State s) {
            int failed = 0;
            for (int literal = 0; literal < 2 * s.variables && !s.list.isContradictory(); literal++) {
                if (s.isActive(literal >> 1) && closure(s.list, NONE, 1 << literal) == NONE) {
                    s.fix(literal ^ 1);
                    fixUnits(s);
                    failed++;
                }
            }
            return failed;
        }

        private int substituteAll(State s) {
            implications.find(s.list);
            if (hasEquivalentComplements(s)) {
                s.list.collapse();
                return 0;
            }
            int substituted = 0;
            for (int v = 0; v < s.variables; v++) {
                int representative = implications.lowestEquivalent(2 * v);
                if (s.isActive(v) && representative != 2 * v) {
                    s.pushRow(pairOf(2 * v, representative ^ 1), 2 * v);
                    s.pushRow(pairOf(2 * v + 1, representative), 2 * v + 1);
                    s.retire(v, SUBSTITUTED, representative);
                    substituted++;
                }
            }
            replaceLiterals(s.list);
            return substituted;
        }

        private boolean hasEquivalentComplements(State s) {
            for (int v = 0; v < s.variables; v++) {
                if (implications.leads(2 * v, 2 * v + 1) && implications.leads(2 * v + 1, 2 * v)) {
                    return true;
                }
            }
            return false;
        }

        private void replaceLiterals(ClauseList list) {
            for (int i = list.size() - 1; i >= 0; i--) {
                int set = implications.replaced(list.at(i));
                if (hasComplementary(set)) {
                    list.removeAt(i);
                } else {
                    list.put(i, set);
                }
            }
        }

        private int vivifyAll(ClauseList list) {
            int removed = 0;
            for (int i = 0; i < list.size(); i++) {
                int result = vivify(list, i);
                if (result == NONE) {
                    list.collapse();
                    return removed;
                }
                removed += Integer.bitCount(list.at(i)) - Integer.bitCount(result);
                if (result == 0) {
                    list.collapse();
                    return removed;
                }
                list.put(i, result);
            }
            return removed;
        }
    }

    /** The text, and how it is read as a schedule. */
    private static final class Text {
        private final int[] bytes = new int[MOST_BYTES];
        private int length;

        int size() {
            return length;
        }

        int at(int index) {
            return index >= 0 && index < length ? bytes[index] : BLANK;
        }

        boolean isFull() {
            return length >= MOST_BYTES;
        }

        void addByte(int value) {
            if (length < MOST_BYTES) {
                bytes[length] = value;
                length++;
            }
        }

        void clear() {
            length = 0;
        }

        /** The technique whose letter stands at an index; NONE if there is no such letter. */
        int techniqueAt(int index) {
            return LETTERS.indexOf((char) at(index));
        }

        /** The syntax error position as a schedule; NONE if there is no syntax error. */
        int scheduleError() {
            int letters = 0;
            for (int i = 0; i < length; i++) {
                if (at(i) == BLANK || at(i) == LINE_FEED) {
                    continue;
                }
                if (techniqueAt(i) == NONE || letters == MOST_LETTERS) {
                    return i;
                }
                letters++;
            }
            return letters == 0 ? length : NONE;
        }
    }

    /** Reads a text as clauses, byte by byte. */
    private static final class ClauseReader {
        private static final int BETWEEN = 0;
        private static final int BEHIND_MINUS = 1;
        private static final int BEHIND_ZERO = 2;
        private static final int IN_LITERAL = 3;

        final ClauseList clauses = new ClauseList(MOST_READ);
        private int variables;
        private int place;
        private int number;
        private int sign;
        private int literals;
        private boolean open;

        void begin(int newVariables) {
            variables = newVariables;
            clauses.clear();
            place = BETWEEN;
            number = 0;
            sign = 0;
            literals = 0;
            open = false;
        }

        /** Whether the text may end here. */
        boolean isComplete() {
            return !open;
        }

        /** Takes the next byte; tells whether it can stand here. */
        boolean takes(int value) {
            boolean blank = value == BLANK || value == LINE_FEED;
            boolean digit = value >= '0' && value <= '9';
            switch (place) {
                case BETWEEN:
                    return blank || digit && takesFirstDigit(value - '0') || value == '-' && takesMinus();
                case BEHIND_MINUS:
                    return digit && value != '0' && takesDigit(value - '0');
                case BEHIND_ZERO:
                    place = BETWEEN;
                    return blank;
                default:
                    return blank ? endsLiteral() : digit && takesDigit(value - '0');
            }
        }

        private boolean takesMinus() {
            sign = 1;
            open = true;
            place = BEHIND_MINUS;
            return true;
        }

        private boolean takesFirstDigit(int digit) {
            return digit == 0 ? endsClause() : takesDigit(digit);
        }

        private boolean takesDigit(int digit) {
            number = 10 * number + digit;
            open = true;
            place = IN_LITERAL;
            return number <= variables;
        }

        private boolean endsLiteral() {
            literals |= 1 << (2 * (number - 1) + sign);
            number = 0;
            sign = 0;
            place = BETWEEN;
            return true;
        }

        private boolean endsClause() {
            if (!hasComplementary(literals)) {
                clauses.add(literals);
            }
            literals = 0;
            open = false;
            place = BEHIND_ZERO;
            return true;
        }
    }

    /** Draws random clauses. */
    private static final class ClauseSource {
        private long x;
        private int variables;

        void begin(int start, int newVariables) {
            x = start;
            variables = newVariables;
        }

        int nextClause(int width) {
            int taken = 0;
            int set = 0;
            for (int i = 0; i < width; i++) {
                int variable = freeVariable(taken, draw(variables - i));
                taken |= 1 << variable;
                set |= 1 << (2 * variable + draw(2));
            }
            return set;
        }

        private int draw(int below) {
            x = (x * 1103515245L + 12345L) % 2147483648L;
            return below > 0 ? (int) ((x / 65536L) % below) : 0;
        }

        /** The k-th variable, from 0, that is not taken. */
        private int freeVariable(int taken, int k) {
            int left = k;
            for (int v = 0; v < variables; v++) {
                if ((taken >> v & 1) == 0) {
                    if (left == 0) {
                        return v;
                    }
                    left--;
                }
            }
            return 0;
        }
    }
}
