/** Promises 1, 2, 3, 7 and 8: construction, entering and clearing the pattern. */
public final class PatternEntryTest {
    private static final String ALLOWED = "abcdefghijklmnopqrstuvwxyz.[]()|*+?";

    public static void main(String[] args) {
        clampedErrors();
        freshState();
        everyChar();
        fullPattern();
        appendingDropsCompiled();
        refusalKeepsCompiled();
        appendedInOrder();
        clearing();
        Check.end();
    }

    private static void clampedErrors() {
        int[] given = {Integer.MIN_VALUE, -100, -1, 0, 1, 2, 3, 4, 5, 6, 7, 8, 9, 255, 256, 263, Integer.MAX_VALUE};
        int[] want = {0, 0, 0, 0, 1, 2, 3, 4, 5, 6, 7, 7, 7, 7, 7, 7, 7};
        for (int i = 0; i < given.length; i++) {
            ApproxRegexSearch x = new ApproxRegexSearch(given[i]);
            Check.due("getK after " + given[i], x.getK(), want[i]);
            Check.enter(x, "abcdefghijk");
            x.compile();
            Check.due("getK after compile", x.getK(), want[i]);
            Check.due("errorsAt(0) for k of " + given[i], x.errorsAt(0), want[i] + 1);
            x.feed('a');
            x.resetText();
            x.clearPattern();
            Check.due("getK at the end", x.getK(), want[i]);
        }
    }

    private static void freshState() {
        ApproxRegexSearch x = new ApproxRegexSearch(3);
        Check.due("fresh patternLength", x.patternLength(), 0);
        Check.due("fresh isCompiled", x.isCompiled(), false);
        Check.due("fresh textLength", x.textLength(), 0);
        Check.due("fresh nullable", x.nullable(), false);
        String fresh = Check.seen(x);
        x.clearPattern();
        x.resetText();
        Check.same("cleared fresh object", Check.seen(x), fresh);
        Check.due("fresh compile", x.compile(), -6);
        Check.due("fresh feed", x.feed('a'), -3);
        Check.same("refused on a fresh object", Check.seen(x), fresh);
    }

    private static void everyChar() {
        ApproxRegexSearch full = new ApproxRegexSearch(0);
        Check.enter(full, "ab".repeat(32));
        for (int code = 0; code <= Character.MAX_VALUE; code++) {
            boolean allowed = ALLOWED.indexOf((char) code) >= 0;
            ApproxRegexSearch x = new ApproxRegexSearch(0);
            Check.due("patternChar of code " + code, x.patternChar((char) code), allowed ? 1 : -1);
            Check.due("patternLength after code " + code, x.patternLength(), allowed ? 1 : 0);
            Check.due("patternChar on full of code " + code, full.patternChar((char) code), allowed ? -2 : -1);
        }
        Check.due("patternLength when full", full.patternLength(), 64);
    }

    private static void fullPattern() {
        ApproxRegexSearch x = new ApproxRegexSearch(2);
        Check.enter(x, "a" + "*".repeat(63));
        Check.due("compile of 64 characters", x.compile(), 1);
        Check.feedAll(x, "ab", 0, 0);
        Check.due("whole", x.wholeDistance(), 1);
        String before = Check.seen(x);
        Check.due("65th character", x.patternChar('a'), -2);
        Check.due("65th character, not allowed", x.patternChar('A'), -1);
        Check.same("refused on full", Check.seen(x), before);
        x.clearPattern();
        Check.enter(x, "z");
        Check.due("compile after clear", x.compile(), 1);
        Check.feedAll(x, "az", 1, 0);
    }

    private static void appendingDropsCompiled() {
        for (int i = 0; i < ALLOWED.length(); i++) {
            ApproxRegexSearch x = Check.compiled(1, "ab");
            Check.feedAll(x, "ab", 1, 0);
            Check.due("append", x.patternChar(ALLOWED.charAt(i)), 3);
            Check.same("seen after append of " + ALLOWED.charAt(i), Check.seen(x), unready(1, 3));
        }
    }

    private static String unready(int k, int length) {
        ApproxRegexSearch x = new ApproxRegexSearch(k);
        Check.enter(x, "(".repeat(length));
        Check.due("not compiled", x.isCompiled(), false);
        Check.due("positions", x.positions(), -3);
        Check.due("minLength", x.minLength(), -3);
        Check.due("nullable", x.nullable(), false);
        Check.due("textLength", x.textLength(), 0);
        Check.due("errorsAt(0)", x.errorsAt(0), -3);
        Check.due("errorsAt(-1)", x.errorsAt(-1), -3);
        Check.due("wholeDistance", x.wholeDistance(), -3);
        Check.due("countWithin", x.countWithin(-1), -3);
        Check.due("firstWithin", x.firstWithin(-1), -3);
        return Check.seen(x);
    }

    private static void refusalKeepsCompiled() {
        ApproxRegexSearch x = Check.compiled(1, "ab");
        Check.feedAll(x, "ab", 1, 0);
        String before = Check.seen(x);
        for (char c : new char[] {'A', '0', ' ', '\n', '{', '`', '^', '\\', '-', ',', '\u00e9', '\u0161', '\uff41',
            '\uffff'}) {
            Check.due("not allowed", x.patternChar(c), -1);
        }
        Check.same("refused while compiled", Check.seen(x), before);
        Check.feedAll(x, "a", 1);
    }

    private static void appendedInOrder() {
        ApproxRegexSearch x = Check.compiled(0, "a");
        Check.feedAll(x, "ab", 0, 1);
        Check.enter(x, "b");
        Check.due("compile again", x.compile(), 2);
        Check.due("text is new", x.textLength(), 0);
        Check.feedAll(x, "abba", 1, 0, 1, 1);
    }

    private static void clearing() {
        ApproxRegexSearch x = Check.compiled(4, "(a|b)*cd");
        Check.feedAll(x, "ac", 2, 1);
        x.clearPattern();
        Check.same("cleared", Check.seen(x), Check.seen(new ApproxRegexSearch(4)));
        Check.due("compile when cleared", x.compile(), -6);
        Check.due("feed when cleared", x.feed('a'), -3);
        Check.enter(x, "b");
        Check.due("compile of the new pattern", x.compile(), 1);
        Check.feedAll(x, "ab", 1, 0);

        ApproxRegexSearch y = new ApproxRegexSearch(0);
        Check.enter(y, "((");
        y.clearPattern();
        Check.due("cleared before compile", y.patternLength(), 0);
    }
}
