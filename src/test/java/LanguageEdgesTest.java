/** What the promises rest on, from the alphabet to the state: a test for each sentence that names an edge. */
public final class LanguageEdgesTest {
    private static final String LETTERS = "abcdefghijklmnopqrstuvwxyz";
    private static final String[] NAMED_AS_NOT_VALID = {"()", "a|", "|a", "a||b", "*a", "[]", "[.]", "(a", "a)"};
    private static final String[] NAMED_AS_VALID = {"a**", "a*?+", "[aa]", "((a))"};

    public static void main(String[] args) {
        Check.sentence("What it is: the public constants", LanguageEdgesTest::constants);
        Check.sentence("Alphabet: words and text consist of 'a'..'z', char codes 97..122",
            LanguageEdgesTest::lettersFromFirstToLast);
        Check.sentence("Alphabet: no other character is ever part of a word or of the text",
            LanguageEdgesTest::noOtherCharInWordOrText);

        Check.sentence("Pattern syntax: a pattern has at most 64 characters", LanguageEdgesTest::patternOfAtMost64);
        for (String wrong : NAMED_AS_NOT_VALID) {
            Check.sentence("Pattern syntax: " + wrong + " is invalid", () -> namedAsNotValid(wrong));
        }
        for (String right : NAMED_AS_VALID) {
            Check.sentence("Pattern syntax: " + right + " is valid", () -> namedAsValid(right));
        }
        Check.sentence("Pattern syntax: valid exactly when the whole string derives from expr",
            LanguageEdgesTest::grammarOfEveryShortPattern);
        Check.sentence("Pattern syntax: postfix operators bind tighter than concatenation",
            LanguageEdgesTest::postfixBindsTighterThanConcatenation);
        Check.sentence("Pattern syntax: concatenation binds tighter than |",
            LanguageEdgesTest::concatenationBindsTighterThanUnion);

        Check.sentence("Language: a letter c is { c }", LanguageEdgesTest::letterIsItself);
        Check.sentence("Language: . is the 26 one-letter words", LanguageEdgesTest::dotIsEveryLetter);
        Check.sentence("Language: a class is its letters as one-letter words", LanguageEdgesTest::classIsItsLetters);
        Check.sentence("Language: repeats in a class are allowed and have no effect",
            LanguageEdgesTest::classRepeatsHaveNoEffect);
        Check.sentence("Language: ( e ) is L(e)", LanguageEdgesTest::groupIsItsExpression);
        Check.sentence("Language: the concatenation is in this order", LanguageEdgesTest::concatenationKeepsItsOrder);
        Check.sentence("Language: | is the union of all branches, the first as well as the last",
            LanguageEdgesTest::unionIsEveryBranch);
        Check.sentence("Language: * is zero or more", LanguageEdgesTest::starIsZeroOrMore);
        Check.sentence("Language: + is one or more", LanguageEdgesTest::plusIsOneOrMore);
        Check.sentence("Language: ? adds the empty word", LanguageEdgesTest::optionalIsZeroOrOne);
        Check.sentence("Language: postfix operators apply left to right", LanguageEdgesTest::postfixLeftToRight);

        Check.sentence("Positions: a class counts as one position however many letters it lists",
            LanguageEdgesTest::classIsOnePosition);
        Check.sentence("Positions: parentheses add no positions", LanguageEdgesTest::noPositionsForParentheses);
        Check.sentence("Positions: postfix operators add no positions", LanguageEdgesTest::noPositionsForPostfix);

        Check.sentence("Distance: each operation inserts, deletes or replaces one letter",
            LanguageEdgesTest::eachOperationCostsOne);
        Check.sentence("Distance: the piece of the text is empty when i = j", LanguageEdgesTest::emptyPieceOfText);
        Check.sentence("Distance: D(j) is the least over every i from 0 to j", LanguageEdgesTest::matchMayBeginAnywhere);
        Check.sentence("Distance: D(0) = min(k+1, shortest length in L)", LanguageEdgesTest::firstErrors);
        Check.sentence("Distance: D(j) = 0 exactly when some word of L ends at j",
            LanguageEdgesTest::noErrorsExactlyAtAWord);
        Check.sentence("Distance: feeding further letters never alters an earlier D value",
            LanguageEdgesTest::furtherLettersAlterNothing);
        Check.sentence("Distance: D(j) and W are capped at k+1", LanguageEdgesTest::capIsOneAboveK);
        Check.sentence("Distance: when n = 0, W equals D(0)", LanguageEdgesTest::wholeOfNoLetters);
        Check.sentence("Distance: the text is the letters accepted since the last successful compile or resetText",
            LanguageEdgesTest::textSinceCompileOrReset);

        Check.sentence("State: k is from 0..7 and fixed at construction", LanguageEdgesTest::kIsFixed);
        Check.sentence("State: whenever the object is not compiled, the text is empty",
            LanguageEdgesTest::noTextWhenNotCompiled);
        Check.sentence("State: a refused call changes nothing at all", LanguageEdgesTest::refusedCallsChangeNothing);
        Check.end();
    }

    private static int compileOf(String pattern) {
        ApproxRegexSearch x = new ApproxRegexSearch(2);
        Check.enter(x, pattern);
        return x.compile();
    }

    /** Without errors allowed, the whole distance tells which words belong. */
    private static void word(String pattern, String word, boolean belongs) {
        ApproxRegexSearch x = Check.compiled(0, pattern);
        for (char c : word.toCharArray()) {
            x.feed(c);
        }
        Check.due("'" + word + "' as a word of " + pattern, x.wholeDistance(), belongs ? 0 : 1);
    }

    private static void words(String pattern, String with, String without) {
        for (String word : with.split(" ", -1)) {
            word(pattern, word, true);
        }
        for (String word : without.split(" ", -1)) {
            word(pattern, word, false);
        }
    }

    private static void constants() {
        Check.due("MAX_K", ApproxRegexSearch.MAX_K, 7);
        Check.due("PATTERN_CAPACITY", ApproxRegexSearch.PATTERN_CAPACITY, 64);
        Check.due("TEXT_CAPACITY", ApproxRegexSearch.TEXT_CAPACITY, 256);
        Check.due("MAX_POSITIONS", ApproxRegexSearch.MAX_POSITIONS, 63);
        Check.due("ERR_BAD_CHAR", ApproxRegexSearch.ERR_BAD_CHAR, -1);
        Check.due("ERR_FULL", ApproxRegexSearch.ERR_FULL, -2);
        Check.due("ERR_NOT_COMPILED", ApproxRegexSearch.ERR_NOT_COMPILED, -3);
        Check.due("ERR_SYNTAX", ApproxRegexSearch.ERR_SYNTAX, -4);
        Check.due("ERR_TOO_MANY", ApproxRegexSearch.ERR_TOO_MANY, -5);
        Check.due("ERR_EMPTY", ApproxRegexSearch.ERR_EMPTY, -6);
        Check.due("ERR_RANGE", ApproxRegexSearch.ERR_RANGE, -7);
    }

    private static void lettersFromFirstToLast() {
        for (int code = 97; code <= 122; code++) {
            ApproxRegexSearch x = new ApproxRegexSearch(0);
            Check.due("patternChar of code " + code, x.patternChar((char) code), 1);
            Check.due("compile", x.compile(), 1);
            Check.due("feed of code " + code, x.feed((char) code), 0);
        }
    }

    private static void noOtherCharInWordOrText() {
        ApproxRegexSearch pattern = new ApproxRegexSearch(0);
        ApproxRegexSearch text = Check.compiled(0, ".*");
        for (int code : new int[] {0, 32, 48, 64, 65, 90, 95, 96, 123, 127, 225, 256 + 97, 256 + 122, 65535}) {
            Check.due("patternChar of code " + code, pattern.patternChar((char) code), -1);
            Check.due("feed of code " + code, text.feed((char) code), -1);
        }
        Check.due("patternLength", pattern.patternLength(), 0);
        Check.due("textLength", text.textLength(), 0);
    }

    private static void patternOfAtMost64() {
        ApproxRegexSearch x = new ApproxRegexSearch(0);
        Check.enter(x, "[" + "ab".repeat(31) + "]");
        Check.due("65th character", x.patternChar('*'), -2);
        Check.due("compile of 64 characters", x.compile(), 1);
        Check.due("the 65th is no part of it", x.minLength(), 1);
    }

    private static void namedAsNotValid(String wrong) {
        Check.due("compile of " + wrong, compileOf(wrong), -4);
        Check.due("compile of (" + wrong + ")", compileOf("(" + wrong + ")"), -4);
        Check.due("compile of b(" + wrong + ")*", compileOf("b(" + wrong + ")*"), -4);
    }

    private static void namedAsValid(String right) {
        Check.due("compile of " + right, compileOf(right), 1);
        Check.due("compile of (" + right + ")", compileOf("(" + right + ")"), 1);
        Check.due("compile of b" + right + "|" + right, compileOf("b" + right + "|" + right), 3);
    }

    private static void grammarOfEveryShortPattern() {
        String chars = "a.[]()|*";
        int count = 1;
        for (int length = 1; length <= 6; length++) {
            count *= chars.length();
            for (int n = 0; n < count; n++) {
                StringBuilder s = new StringBuilder();
                for (int rest = n, i = 0; i < length; i++, rest /= chars.length()) {
                    s.append(chars.charAt(rest % chars.length()));
                }
                Check.due("compile of " + s, compileOf(s.toString()), Oracle.compileAnswer(s.toString()));
            }
        }
        Check.due("parentheses at the deepest", compileOf("(".repeat(31) + "a" + ")".repeat(31) + "*"), 1);
        Check.due("one missing at the deepest", compileOf("(".repeat(32) + "a" + ")".repeat(31)), -4);
        Check.due("one left over at the deepest", compileOf("(".repeat(31) + "a" + ")".repeat(32)), -4);
    }

    private static void postfixBindsTighterThanConcatenation() {
        words("ab*", "a ab abb", " abab b");
        words("ab+", "ab abb", "a abab");
        words("ab?", "a ab", " abb b");
        words("(ab)*", " ab abab", "a abb b");
    }

    private static void concatenationBindsTighterThanUnion() {
        words("ab|cd", "ab cd", "abd acd ad");
        words("a(b|c)d", "abd acd", "ab cd ad");
        words("a|b*", " a b bb", "ab aa");
    }

    private static void letterIsItself() {
        for (char c : LETTERS.toCharArray()) {
            for (char other : LETTERS.toCharArray()) {
                word(String.valueOf(c), String.valueOf(other), c == other);
            }
            words(String.valueOf(c), String.valueOf(c), " " + c + c);
        }
    }

    private static void dotIsEveryLetter() {
        for (char c : LETTERS.toCharArray()) {
            word(".", String.valueOf(c), true);
        }
        words(".", "a z", " aa zz");
    }

    private static void classIsItsLetters() {
        for (String listed : new String[] {"a", "z", "az", "bdf", "zya", LETTERS}) {
            for (char c : LETTERS.toCharArray()) {
                word("[" + listed + "]", String.valueOf(c), listed.indexOf(c) >= 0);
            }
            words("[" + listed + "]", listed.substring(0, 1), " " + listed.charAt(0) + listed.charAt(0));
        }
    }

    private static void classRepeatsHaveNoEffect() {
        for (String pattern : new String[] {"[aa]", "[aaa]", "[" + "a".repeat(62) + "]"}) {
            Check.due("compile of " + pattern, compileOf(pattern), 1);
            words(pattern, "a", " aa b");
        }
        words("[abab]c", "ac bc", "abc ababc c");
    }

    private static void groupIsItsExpression() {
        words("(a)", "a", " aa b");
        words("((a|b))", "a b", " ab");
        words("(".repeat(31) + "ab" + ")".repeat(31), "ab", " a b");
    }

    private static void concatenationKeepsItsOrder() {
        words("abc", "abc", "acb cba bca ab bc");
        words("a*b*", " a b ab aabb", "ba aba");
        words("(a|bc)(d|ef)", "ad aef bcd bcef", "da efa bd");
    }

    private static void unionIsEveryBranch() {
        words("a|b", "a b", " ab");
        words("a|bc|def", "a bc def", " abc bcdef d");
        String pattern = "a|b|c|d|e|f|g|h|i|j|k|l|m|n|o|p|q|r|s|t|u|v|w|x|y|z";
        words(pattern, "a m y z", " az zz");
        words("a|a", "a", "aa");
    }

    private static void starIsZeroOrMore() {
        words("a*", " a aa aaa", "b ab");
        words("xa*y", "xy xay xaay", "x y xby");
        words("(ab|c)*", " ab c abc cab abab cc", "a b acb");
        word("a*", "a".repeat(256), true);
    }

    private static void plusIsOneOrMore() {
        words("a+", "a aa aaa", " b ab");
        words("xa+y", "xay xaay", "xy x y xby");
        words("(ab|c)+", "ab c abc cab abab cc", " a b acb");
        word("a+", "a".repeat(256), true);
    }

    private static void optionalIsZeroOrOne() {
        words("a?", " a", "aa b");
        words("xa?y", "xy xay", "xaay xby");
        words("(ab|c)?", " ab c", "abc abab cc a");
    }

    private static void postfixLeftToRight() {
        String operators = "*+?";
        for (int n = 0; n < 81; n++) {
            StringBuilder s = new StringBuilder();
            for (int rest = n, i = 0; i < 4; i++, rest /= 3) {
                s.append(operators.charAt(rest % 3));
                boolean empty = s.indexOf("*") >= 0 || s.indexOf("?") >= 0;
                boolean many = s.indexOf("*") >= 0 || s.indexOf("+") >= 0;
                word("a" + s, "", empty);
                word("a" + s, "a", true);
                word("a" + s, "aaa", many);
                word("x(ab)" + s + "y", "xy", empty);
                word("x(ab)" + s + "y", "xababy", many);
            }
        }
    }

    private static void classIsOnePosition() {
        for (int listed = 1; listed <= 62; listed++) {
            String one = "[" + "abcdefghijklmnopqrstuvwxyz".repeat(3).substring(0, listed) + "]";
            Check.due("compile of a class of " + listed, compileOf(one), 1);
        }
        Check.due("classes and letters", compileOf("a[bc]d[efg]."), 5);
    }

    private static void noPositionsForParentheses() {
        for (int depth = 0; depth <= 31; depth++) {
            Check.due("compile at depth " + depth, compileOf("(".repeat(depth) + "a" + ")".repeat(depth)), 1);
        }
        Check.due("62 letters in parentheses", compileOf("(" + "a".repeat(62) + ")"), 62);
    }

    private static void noPositionsForPostfix() {
        for (String operator : new String[] {"*", "+", "?"}) {
            for (int n = 1; n <= 63; n++) {
                Check.due("compile with " + n + " times " + operator, compileOf("a" + operator.repeat(n)), 1);
            }
            Check.due("compile of 63 and " + operator, compileOf("a".repeat(63) + operator), 63);
        }
    }

    private static void eachOperationCostsOne() {
        String[][] pairs = {{"abc", "abc", "0"}, {"abc", "abxc", "1"}, {"abc", "xabc", "1"}, {"abc", "abcx", "1"},
            {"abc", "ab", "1"}, {"abc", "bc", "1"}, {"abc", "ac", "1"}, {"abc", "axc", "1"}, {"abc", "xbc", "1"},
            {"abc", "abx", "1"}, {"ab", "ba", "2"}, {"abc", "", "3"}, {"abc", "xyz", "3"}, {"abc", "cab", "2"},
            {"kitten", "sitting", "3"}, {"abcdefg", "zabcdefg", "1"}, {"abcdefg", "bcdefgz", "2"}};
        for (String[] pair : pairs) {
            ApproxRegexSearch x = Check.compiled(7, pair[0]);
            for (char c : pair[1].toCharArray()) {
                x.feed(c);
            }
            Check.due("wholeDistance of " + pair[0] + " and " + pair[1], x.wholeDistance(), Integer.parseInt(pair[2]));
        }
    }

    private static void emptyPieceOfText() {
        for (int n = 0; n <= 7; n++) {
            ApproxRegexSearch x = Check.compiled(7, n == 0 ? "a*" : "a".repeat(n));
            for (int j = 1; j <= 256; j++) {
                Check.due("feed " + j + " of a far letter", x.feed('z'), n);
            }
        }
    }

    private static void matchMayBeginAnywhere() {
        for (int before = 0; before <= 253; before++) {
            ApproxRegexSearch x = Check.compiled(0, "abc");
            for (int j = 1; j <= before; j++) {
                Check.due("feed " + j + " before the word", x.feed('z'), 1);
            }
            Check.feedAll(x, "abc", 1, 1, 0);
        }
        ApproxRegexSearch from1 = Check.compiled(0, "ab*c");
        Check.due("feed of a", from1.feed('a'), 1);
        for (int j = 2; j <= 255; j++) {
            Check.due("feed of b", from1.feed('b'), 1);
        }
        Check.due("a match of the whole text", from1.feed('c'), 0);
    }

    private static void firstErrors() {
        for (int k = 0; k <= 7; k++) {
            for (int n = 1; n <= 10; n++) {
                int want = Math.min(k + 1, n);
                Check.due("one word", Check.compiled(k, "a".repeat(n)).errorsAt(0), want);
                Check.due("shorter branch", Check.compiled(k, "b".repeat(n + 3) + "|" + "a".repeat(n)).errorsAt(0), want);
                Check.due("optional letters", Check.compiled(k, "b*c?" + "a".repeat(n)).errorsAt(0), want);
            }
        }
    }

    private static void noErrorsExactlyAtAWord() {
        for (int k = 0; k <= 7; k++) {
            ApproxRegexSearch x = Check.compiled(k, "a(b|c)d");
            String text = "abdxacdabcdacbdabdd";
            for (int j = 1; j <= text.length(); j++) {
                boolean ends = text.startsWith("abd", j - 3) || text.startsWith("acd", j - 3);
                Check.due("feed " + j + " is 0 for k " + k, x.feed(text.charAt(j - 1)) == 0, ends);
            }
        }
    }

    private static void furtherLettersAlterNothing() {
        ApproxRegexSearch x = Check.compiled(5, "(ab|cd)+e");
        int[] first = new int[257];
        first[0] = x.errorsAt(0);
        for (int j = 1; j <= 256; j++) {
            first[j] = x.feed("abcdexeabz".charAt(j % 10));
        }
        for (int j = 0; j <= 256; j++) {
            Check.due("errorsAt(" + j + ") at the end", x.errorsAt(j), first[j]);
        }
        for (int n = 0; n <= 256; n++) {
            ApproxRegexSearch y = Check.compiled(5, "(ab|cd)+e");
            for (int j = 1; j <= n; j++) {
                y.feed("abcdexeabz".charAt(j % 10));
            }
            Check.due("D(" + n + ") with no letter behind it", y.errorsAt(n), first[n]);
        }
    }

    private static void capIsOneAboveK() {
        for (int k = 0; k <= 7; k++) {
            for (int n = 1; n <= 63; n++) {
                ApproxRegexSearch x = Check.compiled(k, "a".repeat(n));
                Check.due("D(1) of " + n + " wrong letters for k " + k, x.feed('z'), Math.min(k + 1, n));
                Check.due("W of " + n + " wrong letters for k " + k, x.wholeDistance(), Math.min(k + 1, n));
            }
        }
    }

    private static void wholeOfNoLetters() {
        for (State state : State.ready()) {
            ApproxRegexSearch x = state.make();
            x.resetText();
            Check.due("wholeDistance in state " + state.name, x.wholeDistance(), x.errorsAt(0));
        }
    }

    private static void textSinceCompileOrReset() {
        ApproxRegexSearch x = Check.compiled(0, "abc");
        Check.feedAll(x, "ab", 1, 1);
        x.resetText();
        Check.feedAll(x, "c", 1);
        Check.feedAll(x, "ab", 1, 1);
        Check.due("compile", x.compile(), 3);
        Check.feedAll(x, "c", 1);
        Check.feedAll(x, "ab", 1, 1);
        Check.due("a refused letter", x.feed('.'), -1);
        Check.feedAll(x, "c", 0);
    }

    private static void kIsFixed() {
        for (State state : State.all()) {
            for (Call call : Call.values()) {
                ApproxRegexSearch x = state.make();
                call.on(x);
                Check.due("getK after " + call + " in state " + state.name, x.getK(), state.k);
            }
        }
    }

    private static void noTextWhenNotCompiled() {
        for (State state : State.all()) {
            for (Call call : Call.values()) {
                ApproxRegexSearch x = state.make();
                call.on(x);
                if (!x.isCompiled()) {
                    Check.due("textLength after " + call + " in state " + state.name, x.textLength(), 0);
                }
            }
        }
    }

    private static void refusedCallsChangeNothing() {
        for (State state : State.all()) {
            for (Call call : Call.values()) {
                if (call.on(state.make()) < 0) {
                    Later.unchanged("refused " + call, state, call::on);
                }
            }
        }
    }
}
