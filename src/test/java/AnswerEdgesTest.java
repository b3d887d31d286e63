/** Promises 14 to 17: a test for each sentence that names an edge. */
public final class AnswerEdgesTest {
    private static final int LEAST = Integer.MIN_VALUE;
    private static final int GREATEST = Integer.MAX_VALUE;
    private static final int[] INTS = {LEAST, LEAST + 1, -65537, -65536, -257, -256, -255, -8, -1, 0, 1, 2, 7, 8, 9, 255,
        256, 257, 65536, 65537, 1 << 30, GREATEST - 1, GREATEST};

    public static void main(String[] args) {
        Check.sentence("14: errorsAt answers ERR_NOT_COMPILED when the object is not compiled, before ERR_RANGE",
            AnswerEdgesTest::errorsAtWhenNotCompiled);
        Check.sentence("14: errorsAt of j < 0, including Integer.MIN_VALUE, answers ERR_RANGE",
            AnswerEdgesTest::errorsAtBelow);
        Check.sentence("14: errorsAt of j > textLength(), including Integer.MAX_VALUE, answers ERR_RANGE",
            AnswerEdgesTest::errorsAtAbove);
        Check.sentence("14: errorsAt of every j in 0..textLength() answers a D value",
            AnswerEdgesTest::errorsAtAnyOtherInt);
        Check.sentence("14: errorsAt answers D(j), in 0..k+1", AnswerEdgesTest::errorsAtFromZeroToCap);
        Check.sentence("14: j = 0 is allowed and gives min(k+1, shortest length in L)", AnswerEdgesTest::errorsAtZero);
        Check.sentence("14: for j >= 1 errorsAt equals what feed answered", AnswerEdgesTest::errorsAtAsFeedAnswered);
        Check.sentence("14: errorsAt changes nothing", AnswerEdgesTest::errorsAtChangesNothing);

        Check.sentence("15: wholeDistance answers ERR_NOT_COMPILED when the object is not compiled",
            AnswerEdgesTest::wholeWhenNotCompiled);
        Check.sentence("15: wholeDistance answers W, in 0..k+1", AnswerEdgesTest::wholeFromZeroToCap);
        Check.sentence("15: wholeDistance is of the whole text t[1..n], up to 256 letters",
            AnswerEdgesTest::wholeOfTheWholeText);
        Check.sentence("15: with an empty text wholeDistance answers min(k+1, minLength())",
            AnswerEdgesTest::wholeOfEmptyText);
        Check.sentence("15: wholeDistance changes nothing", AnswerEdgesTest::wholeChangesNothing);

        Check.sentence("16: countWithin answers ERR_NOT_COMPILED when the object is not compiled",
            AnswerEdgesTest::countWhenNotCompiled);
        Check.sentence("16: countWithin answers the number of j with 1 <= j <= textLength() and D(j) <= e",
            AnswerEdgesTest::countOfEachBound);
        Check.sentence("16: any e < 0 gives 0", AnswerEdgesTest::countOfNegative);
        Check.sentence("16: any e >= k+1, up to Integer.MAX_VALUE, gives textLength()", AnswerEdgesTest::countOfCapAndMore);
        Check.sentence("16: with an empty text countWithin answers 0", AnswerEdgesTest::countOfEmptyText);
        Check.sentence("16: position 0 is never counted", AnswerEdgesTest::countLeavesOutPositionZero);
        Check.sentence("16: countWithin changes nothing", AnswerEdgesTest::countChangesNothing);

        Check.sentence("17: firstWithin answers ERR_NOT_COMPILED when the object is not compiled",
            AnswerEdgesTest::firstWhenNotCompiled);
        Check.sentence("17: firstWithin answers the least j with 1 <= j <= textLength() and D(j) <= e",
            AnswerEdgesTest::firstOfEachBound);
        Check.sentence("17: firstWithin answers 0 when there is none", AnswerEdgesTest::firstWhenThereIsNone);
        Check.sentence("17: any e < 0 gives 0", AnswerEdgesTest::firstOfNegative);
        Check.sentence("17: with a non-empty text any e >= k+1 gives 1", AnswerEdgesTest::firstOfCapAndMore);
        Check.sentence("17: with an empty text firstWithin answers 0", AnswerEdgesTest::firstOfEmptyText);
        Check.sentence("17: position 0 is never answered as a match", AnswerEdgesTest::firstLeavesOutPositionZero);
        Check.sentence("17: firstWithin changes nothing", AnswerEdgesTest::firstChangesNothing);
        Check.end();
    }

    private static ApproxRegexSearch fed(int k, String pattern, String text) {
        ApproxRegexSearch x = Check.compiled(k, pattern);
        for (char c : text.toCharArray()) {
            x.feed(c);
        }
        return x;
    }

    private static void errorsAtWhenNotCompiled() {
        for (State state : State.unready()) {
            ApproxRegexSearch x = state.make();
            for (int j : INTS) {
                Check.due("errorsAt(" + j + ") in state " + state.name, x.errorsAt(j), -3);
            }
        }
    }

    private static void errorsAtBelow() {
        for (State state : State.ready()) {
            ApproxRegexSearch x = state.make();
            for (int j = -600; j < 0; j++) {
                Check.due("errorsAt(" + j + ") in state " + state.name, x.errorsAt(j), -7);
            }
            for (int shift = 8; shift < 31; shift++) {
                for (int more = 0; more <= 9; more++) {
                    int j = -(1 << shift) + more;
                    Check.due("errorsAt(" + j + ") in state " + state.name, x.errorsAt(j), -7);
                }
            }
            Check.due("errorsAt of the least int", x.errorsAt(LEAST), -7);
            Check.due("errorsAt of the least but one", x.errorsAt(LEAST + 1), -7);
        }
    }

    private static void errorsAtAbove() {
        for (State state : State.ready()) {
            ApproxRegexSearch x = state.make();
            for (int j = state.text.length() + 1; j <= 600; j++) {
                Check.due("errorsAt(" + j + ") in state " + state.name, x.errorsAt(j), -7);
            }
            for (int shift = 9; shift < 31; shift++) {
                for (int more = 0; more <= 9; more++) {
                    int j = (1 << shift) + more;
                    Check.due("errorsAt(" + j + ") in state " + state.name, x.errorsAt(j), -7);
                }
            }
            Check.due("errorsAt of the greatest int", x.errorsAt(GREATEST), -7);
            Check.due("errorsAt of the greatest but one", x.errorsAt(GREATEST - 1), -7);
        }
    }

    private static void errorsAtAnyOtherInt() {
        ApproxRegexSearch x = Check.compiled(7, "abcdefghijkl");
        for (int n = 0; n <= 256; n++) {
            for (int j = 0; j <= n; j++) {
                Check.due("errorsAt(" + j + ") of " + n, x.errorsAt(j), 8);
            }
            Check.due("errorsAt one behind the end of " + n, x.errorsAt(n + 1), -7);
            x.feed('z');
        }
    }

    private static void errorsAtFromZeroToCap() {
        for (int k = 0; k <= 7; k++) {
            ApproxRegexSearch x = fed(k, "abcdefghi", "zabcdefghiz");
            for (int j = 1; j <= 10; j++) {
                Check.due("errorsAt(" + j + ") for k " + k, x.errorsAt(j), Math.min(k + 1, 10 - j));
            }
            Check.due("errorsAt(11) for k " + k, x.errorsAt(11), 1);
        }
    }

    private static void errorsAtZero() {
        for (int k = 0; k <= 7; k++) {
            for (int n = 0; n <= 10; n++) {
                ApproxRegexSearch x = Check.compiled(k, n == 0 ? "[ab]*" : "a".repeat(n));
                Check.due("errorsAt(0) of " + n + " letters for k " + k, x.errorsAt(0), Math.min(k + 1, n));
                x.feed('a');
                Check.due("errorsAt(0) after feed", x.errorsAt(0), Math.min(k + 1, n));
            }
        }
        for (State state : State.ready()) {
            ApproxRegexSearch x = state.make();
            Check.due("errorsAt(0) in state " + state.name, x.errorsAt(0), Math.min(state.k + 1, x.minLength()));
        }
    }

    private static void errorsAtAsFeedAnswered() {
        for (State state : State.ready()) {
            ApproxRegexSearch x = state.make();
            x.resetText();
            int[] answered = new int[257];
            for (int j = 1; j <= 256; j++) {
                answered[j] = x.feed(State.FULL_TEXT.charAt(j - 1));
                Check.due("errorsAt(" + j + ") at once", x.errorsAt(j), answered[j]);
            }
            for (int j = 1; j <= 256; j++) {
                Check.due("errorsAt(" + j + ") in state " + state.name, x.errorsAt(j), answered[j]);
            }
        }
    }

    private static void errorsAtChangesNothing() {
        for (State state : State.all()) {
            for (int j : new int[] {LEAST, -1, 0, state.text.length(), state.text.length() + 1, GREATEST}) {
                Later.unchanged("errorsAt(" + j + ")", state, x -> x.errorsAt(j));
            }
            Later.unchanged("errorsAt of many", state, x -> {
                for (int j = -1; j <= 300; j++) {
                    x.errorsAt(j);
                }
            });
        }
    }

    private static void wholeWhenNotCompiled() {
        for (State state : State.unready()) {
            Check.due("wholeDistance in state " + state.name, state.make().wholeDistance(), -3);
        }
    }

    private static void wholeFromZeroToCap() {
        for (int k = 0; k <= 7; k++) {
            for (int extra = 0; extra <= 10; extra++) {
                int want = Math.min(k + 1, extra);
                String more = "z".repeat(extra);
                Check.due("letters too many", fed(k, "ab", "ab" + more).wholeDistance(), want);
                Check.due("letters too many at the start", fed(k, "ab", more + "ab").wholeDistance(), want);
                Check.due("letters too few", fed(k, "ab" + more, "ab").wholeDistance(), want);
                Check.due("other letters", fed(k, "ab" + more, "ab" + "y".repeat(extra)).wholeDistance(), want);
            }
        }
    }

    private static void wholeOfTheWholeText() {
        String text = "ab".repeat(128);
        for (int k = 0; k <= 7; k++) {
            Check.due("256 right letters", fed(k, "(ab)*", text).wholeDistance(), 0);
            Check.due("the first one wrong", fed(k, "(ab)*", "z" + text.substring(1)).wholeDistance(), 1);
            Check.due("the last one wrong", fed(k, "(ab)*", text.substring(1) + "z").wholeDistance(), Math.min(k + 1, 2));
            Check.due("far too long", fed(k, "ab", text).wholeDistance(), k + 1);
            ApproxRegexSearch full = fed(k, "(ab)*", text);
            full.feed('z');
            Check.due("a refused letter is no part of it", full.wholeDistance(), 0);
        }
        ApproxRegexSearch x = Check.compiled(7, "(ab)*");
        for (int n = 1; n <= 256; n++) {
            x.feed(text.charAt(n - 1));
            Check.due("wholeDistance at " + n, x.wholeDistance(), n % 2);
        }
    }

    private static void wholeOfEmptyText() {
        for (int k = 0; k <= 7; k++) {
            for (int n = 0; n <= 10; n++) {
                ApproxRegexSearch x = Check.compiled(k, n == 0 ? "[ab]*" : "a".repeat(n));
                Check.due("never fed, " + n + " letters for k " + k, x.wholeDistance(), Math.min(k + 1, n));
                x.feed('a');
                x.feed('z');
                x.resetText();
                Check.due("after resetText", x.wholeDistance(), Math.min(k + 1, n));
                x.feed('z');
                x.compile();
                Check.due("after compile", x.wholeDistance(), Math.min(k + 1, n));
            }
        }
    }

    private static void wholeChangesNothing() {
        for (State state : State.all()) {
            Later.unchanged("wholeDistance", state, ApproxRegexSearch::wholeDistance);
        }
    }

    private static void countWhenNotCompiled() {
        for (State state : State.unready()) {
            ApproxRegexSearch x = state.make();
            for (int e : INTS) {
                Check.due("countWithin(" + e + ") in state " + state.name, x.countWithin(e), -3);
            }
        }
    }

    private static void countOfEachBound() {
        for (State state : State.ready()) {
            ApproxRegexSearch x = state.make();
            for (int e = 0; e <= 9; e++) {
                int want = 0;
                for (int j = 1; j <= state.text.length(); j++) {
                    want += x.errorsAt(j) <= e ? 1 : 0;
                }
                Check.due("countWithin(" + e + ") in state " + state.name, x.countWithin(e), want);
            }
        }
        ApproxRegexSearch ends = fed(0, "b", "b" + "a".repeat(254) + "b");
        Check.due("the first and the last of 256", ends.countWithin(0), 2);
        ApproxRegexSearch all = fed(0, "a*", "a".repeat(256));
        Check.due("all of 256", all.countWithin(0), 256);
    }

    private static void countOfNegative() {
        for (State state : State.ready()) {
            ApproxRegexSearch x = state.make();
            for (int e : INTS) {
                if (e < 0) {
                    Check.due("countWithin(" + e + ") in state " + state.name, x.countWithin(e), 0);
                }
            }
        }
    }

    private static void countOfCapAndMore() {
        for (int k = 0; k <= 7; k++) {
            ApproxRegexSearch x = fed(k, "abcdefghij", "zzzabcdefghijzz");
            Check.due("countWithin(k), k " + k, x.countWithin(k), k + 1 + Math.min(k, 2));
            Check.due("countWithin(k+1), k " + k, x.countWithin(k + 1), 15);
        }
        for (State state : State.ready()) {
            ApproxRegexSearch x = state.make();
            Check.due("countWithin(k+1) in state " + state.name, x.countWithin(state.k + 1), state.text.length());
            for (int e : INTS) {
                if (e > state.k) {
                    Check.due("countWithin(" + e + ") in state " + state.name, x.countWithin(e), state.text.length());
                }
            }
        }
    }

    private static void countOfEmptyText() {
        for (State state : State.ready()) {
            ApproxRegexSearch x = state.make();
            x.resetText();
            for (int e : INTS) {
                Check.due("countWithin(" + e + ") in state " + state.name, x.countWithin(e), 0);
            }
        }
    }

    private static void countLeavesOutPositionZero() {
        ApproxRegexSearch x = Check.compiled(1, "a*");
        Check.due("D(0)", x.errorsAt(0), 0);
        for (int n = 0; n <= 256; n++) {
            Check.due("countWithin(0) of " + n, x.countWithin(0), n);
            x.feed('z');
        }
        ApproxRegexSearch y = fed(2, "ab", "b");
        Check.due("D(0) of ab", y.errorsAt(0), 2);
        Check.due("countWithin(2) of one letter", y.countWithin(2), 1);
    }

    private static void countChangesNothing() {
        for (State state : State.all()) {
            for (int e : new int[] {LEAST, -1, 0, state.k, state.k + 1, GREATEST}) {
                Later.unchanged("countWithin(" + e + ")", state, x -> x.countWithin(e));
            }
        }
    }

    private static void firstWhenNotCompiled() {
        for (State state : State.unready()) {
            ApproxRegexSearch x = state.make();
            for (int e : INTS) {
                Check.due("firstWithin(" + e + ") in state " + state.name, x.firstWithin(e), -3);
            }
        }
    }

    private static void firstOfEachBound() {
        for (int k = 0; k <= 7; k++) {
            ApproxRegexSearch x = fed(k, "abcdefghij", "zzzabcdefghijabcdefghij");
            for (int e = 0; e <= k; e++) {
                Check.due("firstWithin(" + e + ") for k " + k, x.firstWithin(e), 13 - e);
            }
        }
        for (int at = 1; at <= 256; at++) {
            ApproxRegexSearch x = fed(0, "b", "a".repeat(at - 1) + "b".repeat(257 - at));
            Check.due("firstWithin(0), first hit at " + at, x.firstWithin(0), at);
        }
    }

    private static void firstWhenThereIsNone() {
        for (int k = 0; k <= 7; k++) {
            ApproxRegexSearch x = fed(k, "abcdefghij", "z".repeat(256));
            for (int e = 0; e <= k; e++) {
                Check.due("firstWithin(" + e + ") for k " + k, x.firstWithin(e), 0);
            }
        }
        ApproxRegexSearch y = fed(2, "abcd", "zabz");
        Check.due("firstWithin(1), nearest is 2", y.firstWithin(1), 0);
        Check.due("firstWithin(2), nearest is 2", y.firstWithin(2), 3);
    }

    private static void firstOfNegative() {
        for (State state : State.ready()) {
            ApproxRegexSearch x = state.make();
            for (int e : INTS) {
                if (e < 0) {
                    Check.due("firstWithin(" + e + ") in state " + state.name, x.firstWithin(e), 0);
                }
            }
        }
    }

    private static void firstOfCapAndMore() {
        for (int k = 0; k <= 7; k++) {
            ApproxRegexSearch x = fed(k, "abcdefghij", "z");
            Check.due("firstWithin(k), k " + k, x.firstWithin(k), 0);
            Check.due("firstWithin(k+1), k " + k, x.firstWithin(k + 1), 1);
        }
        for (State state : State.chosen(s -> !s.text.isEmpty())) {
            ApproxRegexSearch x = state.make();
            Check.due("firstWithin(k+1) in state " + state.name, x.firstWithin(state.k + 1), 1);
            for (int e : INTS) {
                if (e > state.k) {
                    Check.due("firstWithin(" + e + ") in state " + state.name, x.firstWithin(e), 1);
                }
            }
        }
    }

    private static void firstOfEmptyText() {
        for (State state : State.ready()) {
            ApproxRegexSearch x = state.make();
            x.resetText();
            for (int e : INTS) {
                Check.due("firstWithin(" + e + ") in state " + state.name, x.firstWithin(e), 0);
            }
        }
    }

    private static void firstLeavesOutPositionZero() {
        ApproxRegexSearch x = fed(1, "a*", "z");
        Check.due("D(0)", x.errorsAt(0), 0);
        Check.due("firstWithin(0)", x.firstWithin(0), 1);
        ApproxRegexSearch y = fed(3, "abc", "zzb");
        Check.due("D(0) of abc", y.errorsAt(0), 3);
        Check.due("firstWithin(3)", y.firstWithin(3), 1);
        Check.due("firstWithin(2)", y.firstWithin(2), 3);
        Check.due("firstWithin(1)", y.firstWithin(1), 0);
    }

    private static void firstChangesNothing() {
        for (State state : State.all()) {
            for (int e : new int[] {LEAST, -1, 0, state.k, state.k + 1, GREATEST}) {
                Later.unchanged("firstWithin(" + e + ")", state, x -> x.firstWithin(e));
            }
        }
    }
}
