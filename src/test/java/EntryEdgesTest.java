/** Promises 1, 2, 3, 7 and 8: a test for each sentence that names an edge. */
public final class EntryEdgesTest {
    private static final String ALLOWED = "abcdefghijklmnopqrstuvwxyz.[]()|*+?";
    private static final char[] NEIGHBOURS = {0, 9, 10, ' ', '!', '\'', ',', '-', '/', '0', '9', '>', '@', 'A', 'Z', '\\',
        '^', '_', '`', '{', '}', '~', 127, 128, 255, 'a' + 256, 'z' + 256, '.' + 256, '(' + 256, '\uff41',
        Character.MAX_VALUE};

    public static void main(String[] args) {
        Check.sentence("1: values 0..7 are kept as given", EntryEdgesTest::kKeptAsGiven);
        Check.sentence("1: any value below 0, including Integer.MIN_VALUE, gives 0", EntryEdgesTest::kBelowZero);
        Check.sentence("1: any value above 7, including Integer.MAX_VALUE, gives 7", EntryEdgesTest::kAboveSeven);
        Check.sentence("1: k never changes afterwards", EntryEdgesTest::kNeverChanges);
        Check.sentence("1: the fresh pattern is empty", EntryEdgesTest::freshPatternIsEmpty);
        Check.sentence("1: the fresh object is not compiled", EntryEdgesTest::freshIsNotCompiled);
        Check.sentence("1: the fresh text is empty", EntryEdgesTest::freshTextIsEmpty);

        Check.sentence("2: every char that is not allowed answers ERR_BAD_CHAR", EntryEdgesTest::everyOtherCharIsRefused);
        Check.sentence("2: a pattern of 64 characters answers ERR_FULL", EntryEdgesTest::fullPatternRefuses);
        Check.sentence("2: a char that is not allowed changes nothing", EntryEdgesTest::refusedCharChangesNothing);
        Check.sentence("2: a char on a full pattern changes nothing", EntryEdgesTest::refusedOnFullChangesNothing);
        Check.sentence("2: a char that is not allowed on a full pattern answers ERR_BAD_CHAR",
            EntryEdgesTest::badCharOnFull);
        Check.sentence("2: the new pattern length, 1..64, is answered", EntryEdgesTest::lengthsOneToFull);
        Check.sentence("2: the char is appended to the end, the 1st as well as the 64th", EntryEdgesTest::appendedToTheEnd);
        Check.sentence("2: the object becomes not compiled, whatever the appended character",
            EntryEdgesTest::appendUncompiles);
        Check.sentence("2: the text is emptied, whatever the appended character", EntryEdgesTest::appendEmptiesText);
        Check.sentence("2: validity is not considered", EntryEdgesTest::appendAcceptsWhatIsNotValid);
        Check.sentence("2: k is unchanged by an appended char", EntryEdgesTest::appendKeepsK);

        Check.sentence("3: clearPattern always works: empty pattern, not compiled, empty text",
            EntryEdgesTest::clearAlwaysWorks);
        Check.sentence("3: k is unchanged by clearPattern", EntryEdgesTest::clearKeepsK);
        Check.sentence("3: clearPattern on a fresh object leaves the fresh state", EntryEdgesTest::clearOnFresh);

        Check.sentence("7: getK answers the clamped k", EntryEdgesTest::getKAnswersEachK);
        Check.sentence("7: getK never changes anything", EntryEdgesTest::getKChangesNothing);
        Check.sentence("8: patternLength answers 0..64, whether or not the object is compiled",
            EntryEdgesTest::patternLengthInEveryState);
        Check.sentence("8: patternLength changes nothing", EntryEdgesTest::patternLengthChangesNothing);
        Check.end();
    }

    /** k by its own method, and by the cap that it puts on a pattern of ten letters. */
    private static void showsK(String what, ApproxRegexSearch x, int k) {
        Check.due("getK " + what, x.getK(), k);
        x.clearPattern();
        Check.enter(x, "abcdefghij");
        x.compile();
        Check.due("errorsAt(0) " + what, x.errorsAt(0), k + 1);
        Check.due("wholeDistance " + what, x.wholeDistance(), k + 1);
        for (int j = 1; j <= 10; j++) {
            Check.due("feed " + j + ' ' + what, x.feed((char) ('a' + j - 1)), Math.min(k + 1, 10 - j));
        }
        Check.due("getK at last " + what, x.getK(), k);
    }

    private static void kKeptAsGiven() {
        for (int k = 0; k <= 7; k++) {
            showsK("of " + k, new ApproxRegexSearch(k), k);
        }
    }

    private static void kBelowZero() {
        for (int given = -300; given < 0; given++) {
            showsK("of " + given, new ApproxRegexSearch(given), 0);
        }
        for (int shift = 8; shift < 31; shift++) {
            for (int more = -9; more <= 9; more++) {
                int given = -(1 << shift) + more;
                showsK("of " + given, new ApproxRegexSearch(given), 0);
            }
        }
        for (int more = 0; more <= 9; more++) {
            int given = Integer.MIN_VALUE + more;
            showsK("of " + given, new ApproxRegexSearch(given), 0);
        }
    }

    private static void kAboveSeven() {
        for (int given = 8; given <= 300; given++) {
            showsK("of " + given, new ApproxRegexSearch(given), 7);
        }
        for (int shift = 8; shift < 31; shift++) {
            for (int more = -9; more <= 9; more++) {
                int given = (1 << shift) + more;
                showsK("of " + given, new ApproxRegexSearch(given), 7);
            }
        }
        for (int less = 0; less <= 9; less++) {
            int given = Integer.MAX_VALUE - less;
            showsK("of " + given, new ApproxRegexSearch(given), 7);
        }
    }

    private static void kNeverChanges() {
        for (Call call : Call.values()) {
            for (State state : State.all()) {
                ApproxRegexSearch x = state.make();
                call.on(x);
                showsK("after " + call + " in state " + state.name, x, state.k);
            }
        }
    }

    private static void freshPatternIsEmpty() {
        for (int k = -1; k <= 8; k++) {
            ApproxRegexSearch x = new ApproxRegexSearch(k);
            Check.due("patternLength", x.patternLength(), 0);
            Check.due("first patternChar", x.patternChar('a'), 1);
            Check.due("compile of the one letter", x.compile(), 1);
            Check.due("the one letter is all", x.minLength(), 1);
        }
    }

    private static void freshIsNotCompiled() {
        for (int k = -1; k <= 8; k++) {
            ApproxRegexSearch x = new ApproxRegexSearch(k);
            Check.due("isCompiled", x.isCompiled(), false);
            Check.due("feed", x.feed('a'), -3);
            Check.due("positions", x.positions(), -3);
            Check.due("errorsAt(0)", x.errorsAt(0), -3);
        }
    }

    private static void freshTextIsEmpty() {
        for (int k = -1; k <= 8; k++) {
            Check.due("textLength", new ApproxRegexSearch(k).textLength(), 0);
        }
    }

    private static void everyOtherCharIsRefused() {
        for (State state : State.all()) {
            ApproxRegexSearch x = state.make();
            for (int code = 0; code <= Character.MAX_VALUE; code++) {
                if (ALLOWED.indexOf((char) code) < 0) {
                    Check.due("code " + code + " in state " + state.name, x.patternChar((char) code), -1);
                }
            }
        }
    }

    private static void fullPatternRefuses() {
        for (State state : State.withFullPattern()) {
            for (char c : ALLOWED.toCharArray()) {
                Check.due(c + " in state " + state.name, state.make().patternChar(c), -2);
            }
        }
        for (char c : ALLOWED.toCharArray()) {
            ApproxRegexSearch x = new ApproxRegexSearch(0);
            Check.enter(x, "a".repeat(63));
            Check.due(c + " as the 64th", x.patternChar(c), 64);
            Check.due(c + " as the 65th", x.patternChar(c), -2);
            Check.due(c + " once more", x.patternChar(c), -2);
        }
    }

    private static void refusedCharChangesNothing() {
        for (State state : State.all()) {
            for (char c : NEIGHBOURS) {
                Later.unchanged("code " + (int) c, state, x -> Check.due("code " + (int) c, x.patternChar(c), -1));
            }
            Later.unchanged("every code that is not allowed", state, EntryEdgesTest::allThatIsNotAllowed);
        }
    }

    private static void allThatIsNotAllowed(ApproxRegexSearch x) {
        for (int code = 0; code <= Character.MAX_VALUE; code++) {
            if (ALLOWED.indexOf((char) code) < 0) {
                x.patternChar((char) code);
            }
        }
    }

    private static void refusedOnFullChangesNothing() {
        for (State state : State.withFullPattern()) {
            for (char c : ALLOWED.toCharArray()) {
                Later.unchanged("65th " + c, state, x -> Check.due("65th " + c, x.patternChar(c), -2));
            }
            Later.unchanged("all allowed ones", state, x -> {
                for (char c : ALLOWED.repeat(10).toCharArray()) {
                    x.patternChar(c);
                }
            });
        }
    }

    private static void badCharOnFull() {
        for (State state : State.withFullPattern()) {
            for (char c : NEIGHBOURS) {
                Check.due("code " + (int) c + " in state " + state.name, state.make().patternChar(c), -1);
            }
        }
    }

    private static void lengthsOneToFull() {
        for (char c : ALLOWED.toCharArray()) {
            ApproxRegexSearch x = new ApproxRegexSearch(0);
            for (int length = 1; length <= 64; length++) {
                Check.due(c + " as number " + length, x.patternChar(c), length);
                Check.due("patternLength", x.patternLength(), length);
            }
        }
    }

    private static void appendedToTheEnd() {
        String pattern = "abcdefghijklmnopqrstuvwxyz".repeat(2) + "zyxwvutsrqp";
        ApproxRegexSearch x = Check.compiled(0, pattern);
        for (int j = 1; j <= 63; j++) {
            Check.due("letter " + j, x.feed(pattern.charAt(j - 1)), j < 63 ? 1 : 0);
        }
        Check.due("all of it", x.wholeDistance(), 0);
        Check.due("64th character", x.patternChar('*'), 64);
        Check.due("compile with the 64th", x.compile(), 63);
        Check.due("the 64th makes the last letter optional", x.minLength(), 62);

        ApproxRegexSearch y = Check.compiled(0, "ab");
        Check.feedAll(y, "ab", 1, 0);
        Check.enter(y, "c");
        Check.due("compile of abc", y.compile(), 3);
        Check.feedAll(y, "cababc", 1, 1, 1, 1, 1, 0);
    }

    private static void appendUncompiles() {
        for (State state : State.chosen(s -> s.pattern.length() < 64)) {
            for (char c : ALLOWED.toCharArray()) {
                ApproxRegexSearch x = state.make();
                x.patternChar(c);
                String what = " after " + c + " in state " + state.name;
                Check.due("isCompiled" + what, x.isCompiled(), false);
                Check.due("positions" + what, x.positions(), -3);
                Check.due("minLength" + what, x.minLength(), -3);
                Check.due("nullable" + what, x.nullable(), false);
                Check.due("wholeDistance" + what, x.wholeDistance(), -3);
                Check.due("errorsAt(0)" + what, x.errorsAt(0), -3);
                Check.due("countWithin(0)" + what, x.countWithin(0), -3);
                Check.due("firstWithin(0)" + what, x.firstWithin(0), -3);
                Check.due("feed" + what, x.feed('a'), -3);
            }
        }
    }

    private static void appendEmptiesText() {
        for (State state : State.chosen(s -> s.pattern.length() < 64)) {
            for (char c : ALLOWED.toCharArray()) {
                ApproxRegexSearch x = state.make();
                x.patternChar(c);
                Check.due("textLength after " + c + " in state " + state.name, x.textLength(), 0);
            }
        }
        for (State state : State.chosen(s -> s.pattern.length() < 64)) {
            String pattern = state.pattern + "a";
            Later.alike("appended", state, x -> x.patternChar('a'), x -> Check.enter(x, pattern));
        }
    }

    private static void appendAcceptsWhatIsNotValid() {
        for (char first : ALLOWED.toCharArray()) {
            for (char second : ALLOWED.toCharArray()) {
                ApproxRegexSearch x = new ApproxRegexSearch(0);
                Check.due("patternChar " + first, x.patternChar(first), 1);
                Check.due("patternChar " + first + second, x.patternChar(second), 2);
            }
        }
        for (String wrong : new String[] {"()", "a|", "|a", "a||b", "*a", "[]", "[.]", "(a", "a)", "))((", "]["}) {
            Check.enter(new ApproxRegexSearch(0), wrong);
        }
    }

    private static void appendKeepsK() {
        for (int k = 0; k <= 7; k++) {
            for (char c : ALLOWED.toCharArray()) {
                ApproxRegexSearch x = new ApproxRegexSearch(k);
                x.patternChar(c);
                showsK("after " + c, x, k);
            }
        }
    }

    private static void clearAlwaysWorks() {
        for (State state : State.all()) {
            ApproxRegexSearch x = state.make();
            x.clearPattern();
            String what = " after clearPattern in state " + state.name;
            Check.due("patternLength" + what, x.patternLength(), 0);
            Check.due("isCompiled" + what, x.isCompiled(), false);
            Check.due("textLength" + what, x.textLength(), 0);
            Check.due("compile" + what, x.compile(), -6);
            Check.due("feed" + what, x.feed('a'), -3);
            Later.alike("cleared", state, ApproxRegexSearch::clearPattern, y -> { });
        }
    }

    private static void clearKeepsK() {
        for (State state : State.all()) {
            ApproxRegexSearch x = state.make();
            x.clearPattern();
            showsK("after clearPattern in state " + state.name, x, state.k);
        }
    }

    private static void clearOnFresh() {
        for (State state : State.chosen(s -> s.pattern.isEmpty())) {
            Later.unchanged("cleared once", state, ApproxRegexSearch::clearPattern);
            Later.unchanged("cleared often", state, x -> {
                for (int n = 0; n < 300; n++) {
                    x.clearPattern();
                }
            });
        }
    }

    private static void getKAnswersEachK() {
        for (int given = -3; given <= 10; given++) {
            Check.due("getK of " + given, new ApproxRegexSearch(given).getK(), Math.max(0, Math.min(7, given)));
        }
        for (State state : State.all()) {
            Check.due("getK in state " + state.name, state.make().getK(), state.k);
        }
    }

    private static void getKChangesNothing() {
        for (State state : State.all()) {
            Later.unchanged("getK", state, ApproxRegexSearch::getK);
        }
    }

    private static void patternLengthInEveryState() {
        for (State state : State.all()) {
            Check.due("patternLength in state " + state.name, state.make().patternLength(), state.pattern.length());
        }
        ApproxRegexSearch x = new ApproxRegexSearch(0);
        for (int length = 0; length <= 63; length++) {
            Check.due("not compiled", x.patternLength(), length);
            x.compile();
            Check.due("compiled, but for the empty one", x.isCompiled(), length > 0);
            Check.due("compiled", x.patternLength(), length);
            x.patternChar('a');
        }
        Check.due("full", x.patternLength(), 64);
        x.compile();
        Check.due("full, with too many positions", x.patternLength(), 64);
    }

    private static void patternLengthChangesNothing() {
        for (State state : State.all()) {
            Later.unchanged("patternLength", state, ApproxRegexSearch::patternLength);
        }
    }
}
