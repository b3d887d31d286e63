/** Promises 4 and 9 to 12: a test for each sentence that names an edge. */
public final class CompileEdgesTest {
    private static final String[] NOT_VALID = {"()", "a|", "|a", "a||b", "*a", "[]", "[.]", "(a", "a)", "(", ")", "[", "]",
        "|", "*", "+", "?", "a]", "[a", "(a|)", "(*a)", "[a*]", "[[a]]", "a(|b)", "(".repeat(64), ")".repeat(64),
        "[" + "a".repeat(63), "a".repeat(63) + "|", "a".repeat(63) + ")", "a".repeat(63) + "(", "|" + "a".repeat(63),
        "*" + "a".repeat(63), "(" + "a".repeat(63), ".".repeat(63) + "]"};

    public static void main(String[] args) {
        Check.sentence("4: a pattern of length 0 answers ERR_EMPTY", CompileEdgesTest::emptyPattern);
        Check.sentence("4: a pattern that is not valid answers ERR_SYNTAX", CompileEdgesTest::notValid);
        Check.sentence("4: a pattern of more than 63 positions answers ERR_TOO_MANY", CompileEdgesTest::tooManyPositions);
        Check.sentence("4: ERR_EMPTY comes before ERR_SYNTAX", CompileEdgesTest::emptyBeforeSyntax);
        Check.sentence("4: ERR_SYNTAX comes before ERR_TOO_MANY", CompileEdgesTest::syntaxBeforeTooMany);
        Check.sentence("4: a failed compile changes nothing", CompileEdgesTest::failedCompileChangesNothing);
        Check.sentence("4: otherwise the object becomes compiled with the language of the pattern",
            CompileEdgesTest::becomesCompiled);
        Check.sentence("4: compile empties the text", CompileEdgesTest::textIsEmptied);
        Check.sentence("4: compile answers the number of positions, 1..63", CompileEdgesTest::positionsAnswered);
        Check.sentence("4: compile does not alter the pattern buffer", CompileEdgesTest::patternIsNotAltered);
        Check.sentence("4: compiling again succeeds again, answers the same number and empties the text",
            CompileEdgesTest::compileAgain);

        Check.sentence("9: isCompiled answers true exactly when the object is compiled",
            CompileEdgesTest::isCompiledInEveryState);
        Check.sentence("9: isCompiled changes nothing", CompileEdgesTest::isCompiledChangesNothing);
        Check.sentence("10: positions answers ERR_NOT_COMPILED when the object is not compiled",
            CompileEdgesTest::positionsWhenNotCompiled);
        Check.sentence("10: positions answers what compile answered, 1..63", CompileEdgesTest::positionsOneToMost);
        Check.sentence("10: positions changes nothing", CompileEdgesTest::positionsChangesNothing);
        Check.sentence("11: nullable answers false whenever the object is not compiled",
            CompileEdgesTest::nullableWhenNotCompiled);
        Check.sentence("11: nullable answers true exactly when the empty word is in L",
            CompileEdgesTest::nullableByEmptyWord);
        Check.sentence("11: nullable is true exactly when minLength is 0", CompileEdgesTest::nullableAsMinLength);
        Check.sentence("11: nullable changes nothing", CompileEdgesTest::nullableChangesNothing);
        Check.sentence("12: minLength answers ERR_NOT_COMPILED when the object is not compiled",
            CompileEdgesTest::minLengthWhenNotCompiled);
        Check.sentence("12: minLength answers the length of a shortest word, 0..63", CompileEdgesTest::minLengthZeroToMost);
        Check.sentence("12: minLength is not capped at k+1", CompileEdgesTest::minLengthIsNotCapped);
        Check.sentence("12: D(0) equals min(k+1, minLength)", CompileEdgesTest::minLengthAndFirstErrors);
        Check.sentence("12: minLength changes nothing", CompileEdgesTest::minLengthChangesNothing);
        Check.end();
    }

    private static int compileOf(String pattern) {
        ApproxRegexSearch x = new ApproxRegexSearch(2);
        Check.enter(x, pattern);
        return x.compile();
    }

    private static void emptyPattern() {
        for (State state : State.chosen(s -> s.pattern.isEmpty())) {
            Check.due("compile in state " + state.name, state.make().compile(), -6);
        }
        for (State state : State.all()) {
            ApproxRegexSearch x = state.make();
            x.clearPattern();
            Check.due("compile after clearPattern in state " + state.name, x.compile(), -6);
            Check.due("compile once more", x.compile(), -6);
        }
    }

    private static void notValid() {
        for (String pattern : NOT_VALID) {
            Check.due("compile of " + pattern, compileOf(pattern), -4);
        }
    }

    private static void tooManyPositions() {
        for (char c : "abcdefghijklmnopqrstuvwxyz.".toCharArray()) {
            String all = String.valueOf(c).repeat(64);
            Check.due("compile of 64 times " + c, compileOf(all), -5);
            Check.due("compile of 63 times " + c, compileOf(all.substring(1)), 63);
        }
        Check.due("compile of 64 letters and dots", compileOf("a.".repeat(32)), -5);
        Check.due("63 positions and an operator", compileOf("a.".repeat(31) + "z?"), 63);
        Check.due("62 positions and two operators", compileOf("a.".repeat(31) + "|z"), 63);
        Check.due("62 positions, one of them in parentheses", compileOf("a".repeat(61) + "(z)"), 62);
        Check.due("62 positions, one of them a class", compileOf("a".repeat(61) + "[z]"), 62);
    }

    private static void emptyBeforeSyntax() {
        Check.due("compile of nothing", new ApproxRegexSearch(0).compile(), -6);
        ApproxRegexSearch x = new ApproxRegexSearch(0);
        Check.enter(x, "(((");
        Check.due("compile of open parentheses", x.compile(), -4);
        x.clearPattern();
        Check.due("compile of no more", x.compile(), -6);
    }

    private static void syntaxBeforeTooMany() {
        Check.due("64 characters in an open class", compileOf("[" + "a".repeat(63)), -4);
        Check.due("63 letters and a class begun", compileOf("a".repeat(63) + "["), -4);
        Check.due("63 letters and a stray end", compileOf("]" + "a".repeat(63)), -4);
    }

    private static void failedCompileChangesNothing() {
        for (State state : State.unready()) {
            int want = Oracle.compileAnswer(state.pattern);
            if (want < 0) {
                Later.unchanged("failed compile", state, x -> Check.due(state.name, x.compile(), want));
                Later.unchanged("failed compiles", state, x -> {
                    for (int n = 0; n < 300; n++) {
                        x.compile();
                    }
                });
            }
        }
        for (String pattern : NOT_VALID) {
            ApproxRegexSearch x = new ApproxRegexSearch(5);
            Check.enter(x, pattern);
            String before = Check.seen(x);
            x.compile();
            Check.same("failed compile of " + pattern, Check.seen(x), before);
        }
        for (String[] parts : new String[][] {{"(a", ")"}, {"a|", "b"}, {"[", "a]"}, {"[ab", "]*"}, {"((a|b", "))+"}}) {
            ApproxRegexSearch x = new ApproxRegexSearch(1);
            Check.enter(x, parts[0]);
            Check.due("compile of " + parts[0], x.compile(), -4);
            Check.enter(x, parts[1]);
            ApproxRegexSearch y = Check.compiled(1, parts[0] + parts[1]);
            Check.due("compile of the rest", x.compile(), y.positions());
            for (char c : "xabbax".toCharArray()) {
                Check.due("feed after a failed compile of " + parts[0], x.feed(c), y.feed(c));
            }
        }
    }

    private static void becomesCompiled() {
        for (State state : State.all()) {
            if (Oracle.compileAnswer(state.pattern) > 0) {
                ApproxRegexSearch x = state.make();
                x.compile();
                Check.due("isCompiled in state " + state.name, x.isCompiled(), true);
                Later.alike("compiled", state, ApproxRegexSearch::compile, y -> {
                    Check.enter(y, state.pattern);
                    y.compile();
                });
            }
        }
        ApproxRegexSearch x = Check.compiled(0, "b[cd]");
        Check.feedAll(x, "bcdbd", 1, 0, 1, 1, 0);
        x.clearPattern();
        Check.enter(x, "e");
        Check.due("compile of a shorter pattern", x.compile(), 1);
        Check.feedAll(x, "bcdbe", 1, 1, 1, 1, 0);
    }

    private static void textIsEmptied() {
        for (State state : State.ready()) {
            ApproxRegexSearch x = state.make();
            x.compile();
            Check.due("textLength in state " + state.name, x.textLength(), 0);
            Check.due("errorsAt(1)", x.errorsAt(1), -7);
            Check.due("errorsAt of the old end", x.errorsAt(Math.max(1, state.text.length())), -7);
            Check.due("wholeDistance", x.wholeDistance(), Math.min(state.k + 1, x.minLength()));
            Check.due("countWithin", x.countWithin(Integer.MAX_VALUE), 0);
            Check.due("firstWithin", x.firstWithin(Integer.MAX_VALUE), 0);
            for (int j = 1; j <= 256; j++) {
                x.feed('a');
            }
            Check.due("a whole text fits again", x.textLength(), 256);
        }
    }

    private static void positionsAnswered() {
        for (int n = 1; n <= 63; n++) {
            Check.due(n + " letters", compileOf("b".repeat(n)), n);
            Check.due(n + " dots", compileOf(".".repeat(n)), n);
        }
        for (int n = 1; n <= 21; n++) {
            Check.due(n + " classes", compileOf("[a]".repeat(n)), n);
            Check.due(n + " groups", compileOf("(a)".repeat(n)), n);
        }
        for (int n = 1; n <= 32; n++) {
            Check.due(n + " branches", compileOf("a|".repeat(n - 1) + "a"), n);
            Check.due(n + " stars", compileOf("a*".repeat(n)), n);
        }
    }

    private static void patternIsNotAltered() {
        String[] patterns = {"a", "a*", "(a|b)*c", "[abc]+", State.FULL_PATTERN, "a".repeat(63) + "*"};
        for (String pattern : patterns) {
            ApproxRegexSearch x = Check.compiled(1, pattern);
            Check.due("patternLength of " + pattern, x.patternLength(), pattern.length());
        }
        for (String pattern : new String[] {"a", "a*", "(a|b)*c", "[abc]+"}) {
            for (String more : new String[] {"d", "*", "+", "?", "|d", "(d)", "[de]", ")"}) {
                ApproxRegexSearch x = Check.compiled(1, pattern);
                Check.enter(x, more);
                ApproxRegexSearch y = new ApproxRegexSearch(1);
                Check.enter(y, pattern + more);
                String what = " of " + pattern + " and then " + more;
                Check.due("compile" + what, x.compile(), y.compile());
                for (char c : "abcdcabdbeda".toCharArray()) {
                    Check.due("feed" + what, x.feed(c), y.feed(c));
                    Check.due("wholeDistance" + what, x.wholeDistance(), y.wholeDistance());
                }
            }
        }
    }

    private static void compileAgain() {
        for (State state : State.ready()) {
            ApproxRegexSearch x = state.make();
            int want = Oracle.compileAnswer(state.pattern);
            for (int n = 0; n < 300; n++) {
                Check.due("compile again in state " + state.name, x.compile(), want);
                Check.due("isCompiled", x.isCompiled(), true);
                Check.due("textLength", x.textLength(), 0);
                x.feed('a');
                Check.due("textLength after feed", x.textLength(), 1);
            }
        }
    }

    private static void isCompiledInEveryState() {
        for (State state : State.all()) {
            Check.due("isCompiled in state " + state.name, state.make().isCompiled(), state.compiled);
        }
        ApproxRegexSearch x = new ApproxRegexSearch(1);
        Check.enter(x, "ab");
        Check.due("entered", x.isCompiled(), false);
        x.compile();
        Check.due("compiled", x.isCompiled(), true);
        x.feed('a');
        Check.due("fed", x.isCompiled(), true);
        x.resetText();
        Check.due("reset", x.isCompiled(), true);
        x.patternChar('A');
        Check.due("refused", x.isCompiled(), true);
        x.patternChar('a');
        Check.due("appended", x.isCompiled(), false);
        x.compile();
        Check.due("compiled again", x.isCompiled(), true);
        x.clearPattern();
        Check.due("cleared", x.isCompiled(), false);
        x.compile();
        Check.due("empty", x.isCompiled(), false);
    }

    private static void isCompiledChangesNothing() {
        for (State state : State.all()) {
            Later.unchanged("isCompiled", state, ApproxRegexSearch::isCompiled);
        }
    }

    private static void positionsWhenNotCompiled() {
        for (State state : State.unready()) {
            Check.due("positions in state " + state.name, state.make().positions(), -3);
        }
    }

    private static void positionsOneToMost() {
        for (int n = 1; n <= 63; n++) {
            ApproxRegexSearch x = Check.compiled(0, ".".repeat(n));
            Check.due("positions of " + n, x.positions(), n);
            x.feed('a');
            Check.due("positions of " + n + " after feed", x.positions(), n);
            x.resetText();
            Check.due("positions of " + n + " after resetText", x.positions(), n);
        }
        for (State state : State.ready()) {
            Check.due("positions in state " + state.name, state.make().positions(), Oracle.compileAnswer(state.pattern));
        }
    }

    private static void positionsChangesNothing() {
        for (State state : State.all()) {
            Later.unchanged("positions", state, ApproxRegexSearch::positions);
        }
    }

    private static void nullableWhenNotCompiled() {
        for (State state : State.unready()) {
            Check.due("nullable in state " + state.name, state.make().nullable(), false);
        }
        ApproxRegexSearch x = new ApproxRegexSearch(0);
        Check.enter(x, "a*");
        Check.due("entered", x.nullable(), false);
        x.compile();
        Check.due("compiled", x.nullable(), true);
        Check.enter(x, "b?");
        Check.due("appended", x.nullable(), false);
        x.compile();
        x.clearPattern();
        Check.due("cleared", x.nullable(), false);
    }

    private static void nullableByEmptyWord() {
        for (String with : new String[] {"a*", "a?", "a+?", "a?+", "a*+", "a|b*", "a*|b", "(a*)", "(a|b?)+", "a*b?[cd]*.?",
            "(a*|b)(c|d*)", "((((a?))))", "a?".repeat(32), ".*"}) {
            Check.due("nullable of " + with, Check.compiled(0, with).nullable(), true);
        }
        for (String without : new String[] {"a", ".", "[a]", "a+", "a++", "ab*", "a*b", "a|b", "(a|b)+", "a?b?[cd]*.",
            "(a*|b)(c|d)", "(a|b)(c*|d)", "a*b|c", "a".repeat(63)}) {
            Check.due("nullable of " + without, Check.compiled(7, without).nullable(), false);
        }
    }

    private static void nullableAsMinLength() {
        for (State state : State.ready()) {
            ApproxRegexSearch x = state.make();
            Check.due("nullable in state " + state.name, x.nullable(), x.minLength() == 0);
        }
    }

    private static void nullableChangesNothing() {
        for (State state : State.all()) {
            Later.unchanged("nullable", state, ApproxRegexSearch::nullable);
        }
    }

    private static void minLengthWhenNotCompiled() {
        for (State state : State.unready()) {
            Check.due("minLength in state " + state.name, state.make().minLength(), -3);
        }
    }

    private static void minLengthZeroToMost() {
        Check.due("minLength of a*", Check.compiled(3, "a*").minLength(), 0);
        for (int n = 1; n <= 63; n++) {
            Check.due("minLength of " + n, Check.compiled(3, "a".repeat(n)).minLength(), n);
        }
        for (int n = 1; n <= 31; n++) {
            String longer = "a".repeat(n + 1);
            String shorter = "b".repeat(n);
            Check.due("minLength, short branch last", Check.compiled(3, longer + "|" + shorter).minLength(), n);
            Check.due("minLength, short branch first", Check.compiled(3, shorter + "|" + longer).minLength(), n);
        }
    }

    private static void minLengthIsNotCapped() {
        for (int k = 0; k <= 7; k++) {
            for (int n = k; n <= 63; n++) {
                if (n > 0) {
                    ApproxRegexSearch x = Check.compiled(k, "a".repeat(n));
                    Check.due("minLength of " + n + " for k " + k, x.minLength(), n);
                }
            }
        }
    }

    private static void minLengthAndFirstErrors() {
        for (int k = 0; k <= 7; k++) {
            for (int n = 0; n <= 12; n++) {
                ApproxRegexSearch x = Check.compiled(k, n == 0 ? "a*" : "a".repeat(n));
                Check.due("errorsAt(0) of " + n + " for k " + k, x.errorsAt(0), Math.min(k + 1, n));
            }
            Check.due("errorsAt(0) of 63", Check.compiled(k, ".".repeat(63)).errorsAt(0), k + 1);
        }
    }

    private static void minLengthChangesNothing() {
        for (State state : State.all()) {
            Later.unchanged("minLength", state, ApproxRegexSearch::minLength);
        }
    }
}
