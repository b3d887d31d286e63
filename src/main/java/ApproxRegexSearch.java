/**
 * Finds where a regular expression matches a text with at most k edit errors.
 *
 * The pattern becomes an automaton with one state for each position and a start state before
 * them all. At most 63 positions leave a set of states in one long: bit 0 is the start, bit p is
 * position p. For each number of errors d in 0..k, a set tells which states can be reached with
 * at most d errors by the text read so far.
 */
public final class ApproxRegexSearch {
    public static final int MAX_K = 7;
    public static final int PATTERN_CAPACITY = 64;
    public static final int TEXT_CAPACITY = 256;
    public static final int MAX_POSITIONS = 63;
    public static final int ERR_BAD_CHAR = -1;
    public static final int ERR_FULL = -2;
    public static final int ERR_NOT_COMPILED = -3;
    public static final int ERR_SYNTAX = -4;
    public static final int ERR_TOO_MANY = -5;
    public static final int ERR_EMPTY = -6;
    public static final int ERR_RANGE = -7;

    private static final int LETTERS = 26;
    private static final int STATES = MAX_POSITIONS + 1;
    private static final int ERROR_ROWS = MAX_K + 1;
    private static final int TEXT_SLOTS = TEXT_CAPACITY + 1;
    private static final int LEVELS = PATTERN_CAPACITY + 1;
    private static final long START = 1L;
    /** Stands for the shortest length of a union without branches: above that of any word. */
    private static final int NO_WORD = MAX_POSITIONS + 1;

    private final int k;
    private final char[] pattern = new char[PATTERN_CAPACITY];
    private int patternSize = 0;
    private boolean compiled = false;

    private final long[] followers = new long[STATES];
    private final long[] statesOfLetter = new long[LETTERS];
    private long finalStates = 0L;
    private int shortest = 0;
    private int positionCount = 0;

    private int textSize = 0;
    private final int[] errorsByEnd = new int[TEXT_SLOTS];
    /** The sets for a match that may begin anywhere in the text. */
    private final long[] searchSets = new long[ERROR_ROWS];
    /** The sets for a match that begins with the first letter of the text. */
    private final long[] wholeSets = new long[ERROR_ROWS];

    // What compile knows while it reads the pattern. A level is an open parenthesis; each has the
    // union of its finished branches and the branch being read. The piece is the newest one: it
    // stays apart from its branch for as long as a postfix operator may still change it.
    private int level = 0;
    private final long[] unionFirst = new long[LEVELS];
    private final long[] unionLast = new long[LEVELS];
    private final int[] unionShortest = new int[LEVELS];
    private final long[] branchFirst = new long[LEVELS];
    private final long[] branchLast = new long[LEVELS];
    private final int[] branchShortest = new int[LEVELS];
    private long pieceFirst = 0L;
    private long pieceLast = 0L;
    private int pieceShortest = 0;
    private long newestState = START;

    public ApproxRegexSearch(int maxErrors) {
        if (maxErrors < 0) {
            k = 0;
        } else if (maxErrors > MAX_K) {
            k = MAX_K;
        } else {
            k = maxErrors;
        }
    }

    public int patternChar(char c) {
        if (!isPatternChar(c)) {
            return ERR_BAD_CHAR;
        }
        if (patternSize >= PATTERN_CAPACITY) {
            return ERR_FULL;
        }
        pattern[patternSize] = c;
        patternSize++;
        dropCompiled();
        return patternSize;
    }

    public void clearPattern() {
        patternSize = 0;
        dropCompiled();
    }

    public int compile() {
        if (patternSize == 0) {
            return ERR_EMPTY;
        }
        if (!isValidPattern()) {
            return ERR_SYNTAX;
        }
        int count = countPositions();
        if (count > MAX_POSITIONS) {
            return ERR_TOO_MANY;
        }
        buildAutomaton();
        positionCount = count;
        compiled = true;
        startText();
        return count;
    }

    public int feed(char c) {
        if (!compiled) {
            return ERR_NOT_COMPILED;
        }
        if (!isLetter(c)) {
            return ERR_BAD_CHAR;
        }
        if (textSize >= TEXT_CAPACITY) {
            return ERR_FULL;
        }
        long matching = statesOfLetter[c - 'a'];
        readLetter(searchSets, matching, START);
        readLetter(wholeSets, matching, 0L);
        textSize++;
        errorsByEnd[textSize] = leastErrors(searchSets);
        return errorsByEnd[textSize];
    }

    public void resetText() {
        if (compiled) {
            startText();
        }
    }

    public int getK() {
        return k;
    }

    public int patternLength() {
        return patternSize;
    }

    public boolean isCompiled() {
        return compiled;
    }

    public int positions() {
        return compiled ? positionCount : ERR_NOT_COMPILED;
    }

    public boolean nullable() {
        return compiled && shortest == 0;
    }

    public int minLength() {
        return compiled ? shortest : ERR_NOT_COMPILED;
    }

    public int textLength() {
        return textSize;
    }

    public int errorsAt(int j) {
        if (!compiled) {
            return ERR_NOT_COMPILED;
        }
        if (j < 0 || j > textSize) {
            return ERR_RANGE;
        }
        return errorsByEnd[j];
    }

    public int wholeDistance() {
        return compiled ? leastErrors(wholeSets) : ERR_NOT_COMPILED;
    }

    public int countWithin(int e) {
        if (!compiled) {
            return ERR_NOT_COMPILED;
        }
        int count = 0;
        for (int j = 1; j <= textSize; j++) {
            if (errorsByEnd[j] <= e) {
                count++;
            }
        }
        return count;
    }

    public int firstWithin(int e) {
        if (!compiled) {
            return ERR_NOT_COMPILED;
        }
        for (int j = 1; j <= textSize; j++) {
            if (errorsByEnd[j] <= e) {
                return j;
            }
        }
        return 0;
    }

    private void dropCompiled() {
        compiled = false;
        textSize = 0;
    }

    private static boolean isLetter(char c) {
        return c >= 'a' && c <= 'z';
    }

    private static boolean isPostfix(char c) {
        return c == '*' || c == '+' || c == '?';
    }

    private static boolean isPatternChar(char c) {
        return isLetter(c) || isPostfix(c) || c == '.' || c == '|'
            || c == '[' || c == ']' || c == '(' || c == ')';
    }

    // The grammar nests by parentheses alone, so one pass with a count of the open ones decides it.
    private boolean isValidPattern() {
        int open = 0;
        boolean atomDue = true;
        boolean classOpen = false;
        boolean classLetterDue = false;
        for (int i = 0; i < patternSize; i++) {
            char c = pattern[i];
            if (classOpen) {
                if (!isLetter(c) && (c != ']' || classLetterDue)) {
                    return false;
                }
                classOpen = c != ']';
                classLetterDue = false;
            } else if (c == '[') {
                classOpen = true;
                classLetterDue = true;
                atomDue = false;
            } else if (c == '(') {
                open++;
                atomDue = true;
            } else if (isLetter(c) || c == '.') {
                atomDue = false;
            } else if (atomDue || c == ']') {
                return false;
            } else if (c == '|') {
                atomDue = true;
            } else if (c == ')') {
                if (open == 0) {
                    return false;
                }
                open--;
            }
        }
        return open == 0 && !atomDue && !classOpen;
    }

    private int countPositions() {
        int count = 0;
        boolean inClass = false;
        for (int i = 0; i < patternSize; i++) {
            char c = pattern[i];
            if (c == '.' || c == '[' || (isLetter(c) && !inClass)) {
                count++;
            }
            inClass = c == '[' || (inClass && c != ']');
        }
        return count;
    }

    // For a valid pattern of at most 63 positions alone: that keeps the levels and the states in bounds.
    private void buildAutomaton() {
        clearAutomaton();
        boolean inClass = false;
        for (int i = 0; i < patternSize; i++) {
            char c = pattern[i];
            if (isPostfix(c)) {
                applyPostfix(c);
            } else if (inClass && isLetter(c)) {
                acceptLetter(c);
            } else if (c != ']') {
                joinPiece();
                takePatternChar(c);
            }
            inClass = c == '[' || (inClass && c != ']');
        }
        joinPiece();
        endBranch();
        followers[0] = unionFirst[0];
        finalStates = unionLast[0];
        shortest = unionShortest[0];
        if (shortest == 0) {
            finalStates |= START;
        }
    }

    private void clearAutomaton() {
        for (int s = 0; s < STATES; s++) {
            followers[s] = 0L;
        }
        for (int letter = 0; letter < LETTERS; letter++) {
            statesOfLetter[letter] = 0L;
        }
        newestState = START;
        level = 0;
        emptyPiece();
        emptyBranch();
        emptyUnion();
    }

    private void takePatternChar(char c) {
        if (c == '(') {
            level++;
            emptyBranch();
            emptyUnion();
        } else if (c == ')') {
            endBranch();
            closeLevel();
        } else if (c == '|') {
            endBranch();
        } else if (c == '[') {
            beginPosition();
        } else if (c == '.') {
            beginPosition();
            acceptEveryLetter();
        } else if (isLetter(c)) {
            beginPosition();
            acceptLetter(c);
        }
    }

    private void beginPosition() {
        newestState <<= 1;
        pieceFirst = newestState;
        pieceLast = newestState;
        pieceShortest = 1;
    }

    private void acceptLetter(char c) {
        statesOfLetter[c - 'a'] |= newestState;
    }

    private void acceptEveryLetter() {
        for (int letter = 0; letter < LETTERS; letter++) {
            statesOfLetter[letter] |= newestState;
        }
    }

    private void endBranch() {
        unionFirst[level] |= branchFirst[level];
        unionLast[level] |= branchLast[level];
        if (branchShortest[level] < unionShortest[level]) {
            unionShortest[level] = branchShortest[level];
        }
        emptyBranch();
    }

    private void closeLevel() {
        pieceFirst = unionFirst[level];
        pieceLast = unionLast[level];
        pieceShortest = unionShortest[level];
        level--;
    }

    private void applyPostfix(char c) {
        if (c != '?') {
            addFollowers(pieceLast, pieceFirst);
        }
        if (c != '+') {
            pieceShortest = 0;
        }
    }

    // An empty piece holds the empty word alone, so joining it changes nothing.
    private void joinPiece() {
        addFollowers(branchLast[level], pieceFirst);
        if (branchShortest[level] == 0) {
            branchFirst[level] |= pieceFirst;
        }
        if (pieceShortest > 0) {
            branchLast[level] = 0L;
        }
        branchLast[level] |= pieceLast;
        branchShortest[level] += pieceShortest;
        emptyPiece();
    }

    private void emptyPiece() {
        pieceFirst = 0L;
        pieceLast = 0L;
        pieceShortest = 0;
    }

    private void emptyBranch() {
        branchFirst[level] = 0L;
        branchLast[level] = 0L;
        branchShortest[level] = 0;
    }

    private void emptyUnion() {
        unionFirst[level] = 0L;
        unionLast[level] = 0L;
        unionShortest[level] = NO_WORD;
    }

    private void addFollowers(long states, long added) {
        for (int s = 0; s < STATES; s++) {
            if ((states >>> s & 1L) != 0L) {
                followers[s] |= added;
            }
        }
    }

    private long followersOf(long states) {
        long found = 0L;
        for (int s = 0; s < STATES; s++) {
            if ((states >>> s & 1L) != 0L) {
                found |= followers[s];
            }
        }
        return found;
    }

    private void startText() {
        textSize = 0;
        long reached = START;
        for (int d = 0; d <= k; d++) {
            searchSets[d] = reached;
            wholeSets[d] = reached;
            reached |= followersOf(reached);
        }
        errorsByEnd[0] = leastErrors(searchSets);
    }

    // A state is reached by a letter that matches it; or, for one error more, by letting the text
    // letter stand as inserted (the set of before), by taking it for another letter (the followers
    // of before) or by leaving out a letter of the word (the followers of now).
    private void readLetter(long[] sets, long matching, long entry) {
        long lowerBefore = 0L;
        long lowerNow = 0L;
        for (int d = 0; d <= k; d++) {
            long before = sets[d];
            long now = entry | lowerBefore;
            now |= followersOf(before) & matching;
            now |= followersOf(lowerBefore | lowerNow);
            sets[d] = now;
            lowerBefore = before;
            lowerNow = now;
        }
    }

    private int leastErrors(long[] sets) {
        for (int d = 0; d <= k; d++) {
            if ((sets[d] & finalStates) != 0L) {
                return d;
            }
        }
        return k + 1;
    }
}
