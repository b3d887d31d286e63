/** Promises 5, 6 and 13 to 17: feeding the text and asking about it. */
public final class TextTest {
    public static void main(String[] args) {
        everyChar();
        fullText();
        reset();
        eachPartOfTheSyntax();
        eachKindOfError();
        lastPositionRepeats();
        cappedErrors();
        earlierValuesStay();
        errorsAtAnyIndex();
        wholeText();
        countAndFirst();
        emptyText();
        askingChangesNothing();
        Check.end();
    }

    private static void everyChar() {
        ApproxRegexSearch unready = new ApproxRegexSearch(1);
        ApproxRegexSearch x = Check.compiled(1, ".");
        for (int code = 0; code <= Character.MAX_VALUE; code++) {
            boolean letter = code >= 'a' && code <= 'z';
            Check.due("feed, not compiled, of code " + code, unready.feed((char) code), -3);
            int length = x.textLength();
            Check.due("feed of code " + code, x.feed((char) code), letter ? 0 : -1);
            Check.due("textLength after code " + code, x.textLength(), letter ? length + 1 : length);
        }
        Check.due("all letters are in", x.textLength(), 26);
        String before = Check.seen(x);
        for (char c : ".[]()|*+?AZ09 \u0000\u00e1".toCharArray()) {
            Check.due("feed of no letter", x.feed(c), -1);
        }
        Check.same("after refused feeds", Check.seen(x), before);
    }

    private static void fullText() {
        ApproxRegexSearch x = Check.compiled(0, "ab");
        for (int j = 1; j <= 256; j++) {
            Check.due("feed at " + j, x.feed(j % 2 == 1 ? 'a' : 'b'), j % 2);
            Check.due("textLength at " + j, x.textLength(), j);
        }
        String before = Check.seen(x);
        Check.due("257th letter", x.feed('a'), -2);
        Check.due("257th letter, not allowed", x.feed('.'), -1);
        Check.same("after refused feeds", Check.seen(x), before);
        Check.due("errorsAt(256)", x.errorsAt(256), 0);
        Check.due("errorsAt(257)", x.errorsAt(257), -7);
        Check.due("countWithin(0)", x.countWithin(0), 128);
        Check.due("countWithin(1)", x.countWithin(1), 256);
        x.resetText();
        Check.feedAll(x, "bab", 1, 1, 0);
    }

    private static void reset() {
        ApproxRegexSearch x = Check.compiled(2, "a(b|c)d");
        String fresh = Check.seen(x);
        Check.feedAll(x, "abd", 2, 1, 0);
        x.resetText();
        Check.same("after reset", Check.seen(x), fresh);
        Check.due("errorsAt(1) is gone", x.errorsAt(1), -7);
        Check.feedAll(x, "dacd", 2, 2, 1, 0);
        Check.due("wholeDistance after reset", x.wholeDistance(), 1);
        x.resetText();
        x.resetText();
        Check.same("after two resets", Check.seen(x), fresh);

        ApproxRegexSearch y = new ApproxRegexSearch(2);
        Check.enter(y, "ab");
        String before = Check.seen(y);
        y.resetText();
        Check.same("reset when not compiled", Check.seen(y), before);
        Check.due("the pattern is still there", y.compile(), 2);
    }

    private static void eachPartOfTheSyntax() {
        Check.feedAll(Check.compiled(0, "a"), "abza", 0, 1, 1, 0);
        Check.feedAll(Check.compiled(0, "."), "amz", 0, 0, 0);
        Check.feedAll(Check.compiled(0, "[bzb]"), "abyz", 1, 0, 1, 0);
        Check.feedAll(Check.compiled(0, "(ab)"), "aab", 1, 1, 0);
        Check.feedAll(Check.compiled(0, "ab|cd"), "abdcbcd", 1, 0, 1, 1, 1, 1, 0);
        Check.feedAll(Check.compiled(0, "a(b|c)d"), "abdacdad", 1, 1, 0, 1, 1, 0, 1, 1);
        Check.feedAll(Check.compiled(0, "ab*c"), "acabcabbbc", 1, 0, 1, 1, 0, 1, 1, 1, 1, 0);
        Check.feedAll(Check.compiled(0, "ab+c"), "acabcabbbc", 1, 1, 1, 1, 0, 1, 1, 1, 1, 0);
        Check.feedAll(Check.compiled(0, "ab?c"), "acabcabbc", 1, 0, 1, 1, 0, 1, 1, 1, 1);
        Check.feedAll(Check.compiled(0, "x(ab)*y"), "xyxabyxaybyxababy", 1, 0, 1, 1, 1, 0, 1, 1, 1, 1, 1, 1, 1, 1, 1, 1, 0);
        Check.feedAll(Check.compiled(0, "x(ab)+?y"), "xyxaby", 1, 0, 1, 1, 1, 0);
        Check.feedAll(Check.compiled(0, "x(a?b?)+y"), "xyxbay", 1, 0, 1, 1, 1, 0);
        Check.feedAll(Check.compiled(0, "x[ab]+y"), "xyxbay", 1, 1, 1, 1, 1, 0);
        Check.feedAll(Check.compiled(0, "x.*y"), "axqqyzy", 1, 1, 1, 1, 0, 1, 0);
    }

    private static void eachKindOfError() {
        Check.feedAll(Check.compiled(3, "abc"), "abc", 2, 1, 0);
        Check.feedAll(Check.compiled(3, "abc"), "axbc", 2, 2, 2, 1);
        Check.feedAll(Check.compiled(3, "abc"), "axc", 2, 2, 1);
        Check.feedAll(Check.compiled(3, "abc"), "zac", 3, 2, 1);
        Check.feedAll(Check.compiled(1, "ab"), "ba", 1, 1);
        Check.feedAll(Check.compiled(7, "abcdef"), "af", 5, 4);
    }

    private static void lastPositionRepeats() {
        ApproxRegexSearch x = Check.compiled(0, "a".repeat(62) + "z+");
        for (int j = 1; j <= 70; j++) {
            Check.due("feed " + j + " for 63 positions", x.feed(j <= 62 ? 'a' : 'z'), j <= 62 ? 1 : 0);
        }
        Check.due("whole for 63 positions", x.wholeDistance(), 0);
    }

    private static void cappedErrors() {
        for (int k = 0; k <= 7; k++) {
            ApproxRegexSearch x = Check.compiled(k, "abcdefghij");
            for (int j = 1; j <= 20; j++) {
                Check.due("a far letter for k " + k, x.feed('z'), k + 1);
            }
            Check.due("far whole text for k " + k, x.wholeDistance(), k + 1);
            for (int j = 1; j <= 10; j++) {
                Check.due("a near letter for k " + k, x.feed((char) ('a' + j - 1)), Math.min(k + 1, 10 - j));
            }
            Check.due("far whole text for k " + k, x.wholeDistance(), k + 1);
        }
    }

    private static void earlierValuesStay() {
        ApproxRegexSearch x = Check.compiled(3, "a(b|c)*d");
        String text = "xxabcdxacbbdzzad";
        int[] answered = new int[text.length() + 1];
        answered[0] = x.errorsAt(0);
        for (int j = 1; j <= text.length(); j++) {
            answered[j] = x.feed(text.charAt(j - 1));
            for (int i = 0; i <= j; i++) {
                Check.due("errorsAt(" + i + ") at length " + j, x.errorsAt(i), answered[i]);
            }
        }
    }

    private static void errorsAtAnyIndex() {
        ApproxRegexSearch x = Check.compiled(1, "ab");
        int[] outside = {Integer.MIN_VALUE, -257, -256, -2, -1, 3, 4, 256, 257, 65536, Integer.MAX_VALUE};
        Check.due("errorsAt(1) of the empty text", x.errorsAt(1), -7);
        Check.feedAll(x, "ab", 1, 0);
        for (int j : outside) {
            Check.due("errorsAt(" + j + ")", x.errorsAt(j), -7);
        }
        Check.due("errorsAt(0)", x.errorsAt(0), 2);
        Check.due("errorsAt(1)", x.errorsAt(1), 1);
        Check.due("errorsAt(2)", x.errorsAt(2), 0);
        x.clearPattern();
        for (int j : outside) {
            Check.due("errorsAt(" + j + "), not compiled", x.errorsAt(j), -3);
        }
    }

    private static void whole(int k, String pattern, String text, int want) {
        ApproxRegexSearch x = Check.compiled(k, pattern);
        for (char c : text.toCharArray()) {
            x.feed(c);
        }
        Check.due("wholeDistance of " + pattern + " and " + text, x.wholeDistance(), want);
    }

    private static void wholeText() {
        whole(7, "abc", "", 3);
        whole(1, "abc", "", 2);
        whole(7, "a*", "", 0);
        whole(7, "abc", "abc", 0);
        whole(7, "abc", "xabc", 1);
        whole(7, "abc", "abcx", 1);
        whole(7, "abc", "xxabcxx", 4);
        whole(7, "abc", "ac", 1);
        whole(7, "abc", "axc", 1);
        whole(7, "(ab)*", "abababab", 0);
        whole(7, "(ab)*", "ababbab", 1);
        whole(7, "a*", "bbbb", 4);
        whole(3, "a*", "bbbbbbbb", 4);
        whole(7, "a+", "bbbb", 4);
        whole(7, "kitten", "sitting", 3);
        whole(0, "a|b", "b", 0);
        whole(0, "a|b", "ab", 1);
        whole(0, "[ab]*", "ab".repeat(128), 0);
        whole(7, "[ab]*", "ab".repeat(124) + "ccccccc", 7);
        whole(7, "[ab]*", "ab".repeat(124) + "cccccccc", 8);
    }

    private static void within(ApproxRegexSearch x, int e, int count, int first) {
        Check.due("countWithin(" + e + ")", x.countWithin(e), count);
        Check.due("firstWithin(" + e + ")", x.firstWithin(e), first);
    }

    private static void countAndFirst() {
        ApproxRegexSearch x = Check.compiled(2, "abcd");
        Check.feedAll(x, "zzabcdz", 3, 3, 3, 2, 1, 0, 1);
        within(x, Integer.MIN_VALUE, 0, 0);
        within(x, -1, 0, 0);
        within(x, 0, 1, 6);
        within(x, 1, 3, 5);
        within(x, 2, 4, 4);
        within(x, 3, 7, 1);
        within(x, 4, 7, 1);
        within(x, Integer.MAX_VALUE, 7, 1);

        ApproxRegexSearch y = Check.compiled(1, "abc");
        Check.feedAll(y, "zz", 2, 2);
        within(y, 0, 0, 0);
        within(y, 1, 0, 0);
        within(y, 2, 2, 1);
        y.clearPattern();
        within(y, -1, -3, -3);
        within(y, 0, -3, -3);
        within(y, Integer.MAX_VALUE, -3, -3);
    }

    private static void emptyText() {
        for (String pattern : new String[] {"a*", "abc"}) {
            ApproxRegexSearch x = Check.compiled(1, pattern);
            for (int e : new int[] {Integer.MIN_VALUE, -1, 0, 1, 2, 3, Integer.MAX_VALUE}) {
                within(x, e, 0, 0);
            }
            x.feed('a');
            x.resetText();
            within(x, 2, 0, 0);
        }
        ApproxRegexSearch x = Check.compiled(0, "a*");
        Check.feedAll(x, "zz", 0, 0);
        within(x, 0, 2, 1);
    }

    private static void askingChangesNothing() {
        ApproxRegexSearch asked = Check.compiled(3, "(ab|c)+d");
        ApproxRegexSearch unasked = Check.compiled(3, "(ab|c)+d");
        for (char c : "xabcabdcdxx".toCharArray()) {
            String first = Check.seen(asked);
            Check.same("asked twice", Check.seen(asked), first);
            Check.due("feed after asking", asked.feed(c), unasked.feed(c));
        }
        Check.same("asked often", Check.seen(asked), Check.seen(unasked));
    }
}
