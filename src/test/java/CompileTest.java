/** Promises 4 and 9 to 12: compile, and what is known of the pattern after it. */
public final class CompileTest {
    public static void main(String[] args) {
        documentExamples();
        everyShortPattern();
        manyPositions();
        deepNesting();
        failedCompile();
        compileAgain();
        lengths();
        noTraceOfEarlierPattern();
        Check.end();
    }

    private static int compileOf(String pattern) {
        ApproxRegexSearch x = new ApproxRegexSearch(1);
        Check.enter(x, pattern);
        int answer = x.compile();
        Check.due("isCompiled of " + pattern, x.isCompiled(), answer > 0);
        Check.due("positions of " + pattern, x.positions(), answer > 0 ? answer : -3);
        Check.due("patternLength of " + pattern, x.patternLength(), pattern.length());
        Check.due("textLength of " + pattern, x.textLength(), 0);
        return answer;
    }

    private static void documentExamples() {
        for (String wrong : new String[] {"()", "a|", "|a", "a||b", "*a", "[]", "[.]", "(a", "a)"}) {
            Check.due("compile of " + wrong, compileOf(wrong), -4);
        }
        for (String one : new String[] {"a**", "a*?+", "[aa]", "((a))", ".", "[abc]", "[z]+"}) {
            Check.due("compile of " + one, compileOf(one), 1);
        }
        Check.due("empty pattern", compileOf(""), -6);
        for (String wrong : new String[] {"[a", "[", "]", "a]", "[a]]", "[[a]]", "[a[b]", "[a|b]", "[a*]", "[(a)]",
            "(a))(", ")a(", "(*a)", "(|a)", "(a|)", "a|*", "(", ")", "|", "*", "+", "?", "a(", "(a]", "[a)", "())"}) {
            Check.due("compile of " + wrong, compileOf(wrong), -4);
        }
    }

    private static void everyShortPattern() {
        String chars = "az.[]()|*+?";
        int count = 1;
        for (int length = 0; length <= 5; length++) {
            for (int n = 0; n < count; n++) {
                StringBuilder s = new StringBuilder();
                for (int rest = n, i = 0; i < length; i++, rest /= chars.length()) {
                    s.append(chars.charAt(rest % chars.length()));
                }
                Check.due("compile of " + s, compileOf(s.toString()), Oracle.compileAnswer(s.toString()));
            }
            count *= chars.length();
        }
    }

    private static void manyPositions() {
        Check.due("63 letters", compileOf("a".repeat(63)), 63);
        Check.due("64 letters", compileOf("a".repeat(64)), -5);
        Check.due("64 dots", compileOf(".".repeat(64)), -5);
        Check.due("63 dots and an operator", compileOf(".".repeat(63) + "*"), 63);
        Check.due("64 characters, not valid", compileOf("a".repeat(63) + "|"), -4);
        Check.due("64 characters, not valid", compileOf("a".repeat(63) + "("), -4);
        Check.due("one class of 62 letters", compileOf("[" + "ab".repeat(31) + "]"), 1);
        Check.due("a class without its end", compileOf("[" + "a".repeat(63)), -4);
        Check.due("21 classes", compileOf("[x]".repeat(21) + "a"), 22);
        Check.due("32 branches", compileOf("a" + "|a".repeat(31)), 32);
    }

    private static void deepNesting() {
        Check.due("31 deep", compileOf("(".repeat(31) + "a" + ")".repeat(31)), 1);
        Check.due("31 deep and starred", compileOf("(".repeat(31) + "a" + ")".repeat(31) + "*"), 1);
        Check.due("64 open", compileOf("(".repeat(64)), -4);
        Check.due("64 closed", compileOf(")".repeat(64)), -4);
        Check.due("one too few", compileOf("(".repeat(32) + "a" + ")".repeat(31)), -4);
        Check.due("one too many", compileOf("(".repeat(31) + "a" + ")".repeat(32)), -4);
        ApproxRegexSearch x = Check.compiled(2, "(a".repeat(21) + ")".repeat(21));
        Check.due("nested letters", x.minLength(), 21);
        ApproxRegexSearch y = Check.compiled(2, "(a|".repeat(15) + "b" + ")".repeat(15));
        Check.due("nested branches", y.positions(), 16);
        Check.feedAll(y, "cba", 1, 0, 0);
    }

    private static void failedCompile() {
        String[] patterns = {"", "(a", "a".repeat(64)};
        int[] want = {-6, -4, -5};
        for (int i = 0; i < patterns.length; i++) {
            ApproxRegexSearch x = new ApproxRegexSearch(5);
            Check.enter(x, patterns[i]);
            String before = Check.seen(x);
            Check.due("failed compile", x.compile(), want[i]);
            Check.due("failed compile, again", x.compile(), want[i]);
            Check.same("after a failed compile", Check.seen(x), before);
        }
        ApproxRegexSearch x = new ApproxRegexSearch(5);
        Check.enter(x, "(a");
        x.compile();
        Check.enter(x, ")");
        Check.due("compile once it is valid", x.compile(), 1);

        ApproxRegexSearch y = Check.compiled(1, "ab");
        Check.enter(y, "(");
        Check.due("failed after a good one", y.compile(), -4);
        Check.due("feed after the failed one", y.feed('a'), -3);
    }

    private static void compileAgain() {
        ApproxRegexSearch x = Check.compiled(2, "(a|bc)+d?");
        String fresh = Check.seen(x);
        Check.feedAll(x, "xbc", 1, 1, 0);
        Check.due("compile again", x.compile(), 4);
        Check.same("compiled again", Check.seen(x), fresh);
        Check.feedAll(x, "xbc", 1, 1, 0);
        Check.due("compile a third time", x.compile(), 4);
        Check.due("wholeDistance is new", x.wholeDistance(), 1);
    }

    private static void length(String pattern, int want) {
        for (int k = 0; k <= 7; k += 7) {
            ApproxRegexSearch x = Check.compiled(k, pattern);
            Check.due("minLength of " + pattern, x.minLength(), want);
            Check.due("nullable of " + pattern, x.nullable(), want == 0);
            Check.due("errorsAt(0) of " + pattern, x.errorsAt(0), Math.min(k + 1, want));
            Check.due("wholeDistance of " + pattern, x.wholeDistance(), Math.min(k + 1, want));
            x.feed('q');
            Check.due("minLength after feed of " + pattern, x.minLength(), want);
            Check.due("nullable after feed of " + pattern, x.nullable(), want == 0);
        }
    }

    private static void lengths() {
        length("a", 1);
        length("a*", 0);
        length("a?", 0);
        length("a+", 1);
        length("a+?", 0);
        length("a?+", 0);
        length("a*+", 0);
        length("ab*", 1);
        length("ab?c", 2);
        length("ab|c", 1);
        length("abc|de|fghi", 2);
        length("abc|d*", 0);
        length("(ab|cde)(f|gh)", 3);
        length("(a*|bc)d", 1);
        length("(a?b?)+", 0);
        length("(ab)+(ab)+", 4);
        length("[abc][abc]*.", 2);
        length("(a|b*)(c|d*)", 0);
        length(".".repeat(63), 63);
        length("a".repeat(63) + "+", 63);
        length("a".repeat(63) + "*", 62);
        length("a".repeat(31) + "|" + "b".repeat(32), 31);
    }

    private static void noTraceOfEarlierPattern() {
        ApproxRegexSearch x = Check.compiled(1, "(a.[bc]*)+|z*");
        Check.feedAll(x, "abz", 0, 0, 0);
        x.clearPattern();
        Check.enter(x, "qr");
        Check.due("compile", x.compile(), 2);
        Check.due("minLength", x.minLength(), 2);
        Check.feedAll(x, "abzqbqr", 2, 2, 2, 1, 1, 1, 0);
        Check.due("wholeDistance", x.wholeDistance(), 2);
    }
}
