import java.util.Arrays;
import java.util.function.Consumer;
import java.util.function.Predicate;

/** A state that an object can be brought to, with what stands in it: the tests of the edges begin in each of them. */
final class State {
    /** Eight times the same eight characters: a full pattern buffer with a valid pattern. */
    static final String FULL_PATTERN = "a(b|c)*d".repeat(8);
    static final String FULL_TEXT = "xabcbdad".repeat(32);

    /** Three letters of it, the last ones, are not in the other full text. */
    private static final String NEARLY = FULL_TEXT.substring(3) + "zzz";

    private static final State[] ALL = {
        new State("fresh", 2, "", false, "", x -> { }),
        new State("entered", 2, "a(b|c)*d", false, "", x -> Check.enter(x, "a(b|c)*d")),
        new State("not finished", 7, "ab(c", false, "", x -> Check.enter(x, "ab(c")),
        new State("class not finished", 0, "ab[c", false, "", x -> Check.enter(x, "ab[c")),
        new State("not valid", 2, "a||b", false, "", x -> Check.enter(x, "a||b")),
        new State("full, valid", 2, FULL_PATTERN, false, "", x -> Check.enter(x, FULL_PATTERN)),
        new State("full, not valid", 2, "(".repeat(64), false, "", x -> Check.enter(x, "(".repeat(64))),
        new State("full, too many positions", 2, "a".repeat(64), false, "", x -> Check.enter(x, "a".repeat(64))),
        new State("failed compile", 2, "(ab", false, "", State::failCompile),
        new State("cleared", 2, "", false, "", State::clearAfterUse),
        new State("cleared and entered", 2, "ab", false, "", State::enterAfterClear),
        new State("appended to a compiled one", 2, "abc", false, "", State::appendAfterUse),
        new State("compiled", 2, "a(b|c)*d", true, "", x -> compile(x, "a(b|c)*d")),
        new State("compiled, empty word", 1, "(ab)*", true, "", x -> compile(x, "(ab)*")),
        new State("one letter of text", 0, "a", true, "a", x -> read(x, "a", "a")),
        new State("reading", 2, "a(b|c)*d", true, "xabbz", x -> read(x, "a(b|c)*d", "xabbz")),
        new State("reading, empty word", 7, "(a[bc]|d.)*", true, "abda", x -> read(x, "(a[bc]|d.)*", "abda")),
        new State("text full but for one", 3, "bcd+", true, FULL_TEXT.substring(1),
            x -> read(x, "bcd+", FULL_TEXT.substring(1))),
        new State("text full", 3, "abcdab", true, FULL_TEXT, x -> read(x, "abcdab", FULL_TEXT)),
        new State("pattern full, compiled", 7, FULL_PATTERN, true, "", x -> compile(x, FULL_PATTERN)),
        new State("pattern full, reading", 7, FULL_PATTERN, true, "abdadacd", x -> read(x, FULL_PATTERN, "abdadacd")),
        new State("pattern and text full", 2, FULL_PATTERN, true, FULL_TEXT, x -> read(x, FULL_PATTERN, FULL_TEXT)),
        new State("k errors behind it", 1, "abcdefgh", true, "abxd", x -> read(x, "abcdefgh", "abxd")),
        new State("pattern full, k errors behind it", 1, FULL_PATTERN, true, "adadxdadad",
            x -> read(x, FULL_PATTERN, "adadxdadad")),
        new State("text full, k errors", 3, "[abcdx]*", true, NEARLY, x -> read(x, "[abcdx]*", NEARLY)),
        new State("pattern and text full, no errors", 0, "[abcdx]*".repeat(8), true, FULL_TEXT,
            x -> read(x, "[abcdx]*".repeat(8), FULL_TEXT)),
        new State("63 positions", 1, "a".repeat(63), true, "a".repeat(70), x -> read(x, "a".repeat(63), "a".repeat(70))),
        new State("reset", 2, "ab*c", true, "", State::resetAfterUse),
        new State("compiled again", 2, "ab*c", true, "bc", State::compileAfterUse),
    };

    final String name;
    final int k;
    final String pattern;
    final boolean compiled;
    final String text;
    private final Consumer<ApproxRegexSearch> reach;

    private State(String name, int k, String pattern, boolean compiled, String text, Consumer<ApproxRegexSearch> reach) {
        this.name = name;
        this.k = k;
        this.pattern = pattern;
        this.compiled = compiled;
        this.text = text;
        this.reach = reach;
    }

    ApproxRegexSearch make() {
        ApproxRegexSearch x = new ApproxRegexSearch(k);
        reach.accept(x);
        return x;
    }

    static State[] all() {
        return ALL.clone();
    }

    static State[] ready() {
        return chosen(s -> s.compiled);
    }

    static State[] unready() {
        return chosen(s -> !s.compiled);
    }

    static State[] withFullPattern() {
        return chosen(s -> s.pattern.length() == 64);
    }

    static State[] withFullText() {
        return chosen(s -> s.text.length() == 256);
    }

    static State[] chosen(Predicate<State> wanted) {
        return Arrays.stream(ALL).filter(wanted).toArray(State[]::new);
    }

    private static void compile(ApproxRegexSearch x, String pattern) {
        Check.enter(x, pattern);
        x.compile();
    }

    private static void read(ApproxRegexSearch x, String pattern, String text) {
        compile(x, pattern);
        for (char c : text.toCharArray()) {
            x.feed(c);
        }
    }

    private static void failCompile(ApproxRegexSearch x) {
        compile(x, "(ab");
    }

    private static void clearAfterUse(ApproxRegexSearch x) {
        read(x, FULL_PATTERN, "abd");
        x.clearPattern();
    }

    private static void enterAfterClear(ApproxRegexSearch x) {
        clearAfterUse(x);
        Check.enter(x, "ab");
    }

    private static void appendAfterUse(ApproxRegexSearch x) {
        read(x, "ab", "xab");
        x.patternChar('c');
    }

    private static void resetAfterUse(ApproxRegexSearch x) {
        read(x, "ab*c", "xabbc");
        x.resetText();
    }

    private static void compileAfterUse(ApproxRegexSearch x) {
        read(x, "ab*c", "abbcx");
        x.compile();
        x.feed('b');
        x.feed('c');
    }
}
