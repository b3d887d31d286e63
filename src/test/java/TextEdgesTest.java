/** Promises 5, 6 and 13: a test for each sentence that names an edge. */
public final class TextEdgesTest {
    private static final String LETTERS = "abcdefghijklmnopqrstuvwxyz";
    private static final char[] NO_LETTERS = {0, ' ', '.', '*', '+', '?', '|', '(', ')', '[', ']', '0', 'A', 'Z', '`', '{',
        127, 128, 255, 'a' + 256, 'z' + 256, '\uff41', Character.MAX_VALUE};

    public static void main(String[] args) {
        Check.sentence("5: feed answers ERR_NOT_COMPILED when the object is not compiled, whatever c is",
            TextEdgesTest::notCompiledWhateverTheChar);
        Check.sentence("5: feed of what is not in 'a'..'z' answers ERR_BAD_CHAR", TextEdgesTest::everyOtherCharIsRefused);
        Check.sentence("5: pattern operators are not text letters", TextEdgesTest::operatorsAreNoLetters);
        Check.sentence("5: feed at a textLength of 256 answers ERR_FULL", TextEdgesTest::fullTextRefuses);
        Check.sentence("5: ERR_BAD_CHAR comes before ERR_FULL", TextEdgesTest::badCharOnFullText);
        Check.sentence("5: a feed that is refused for want of a compiled pattern changes nothing",
            TextEdgesTest::notCompiledChangesNothing);
        Check.sentence("5: a feed that is refused for its char changes nothing", TextEdgesTest::badCharChangesNothing);
        Check.sentence("5: a feed that is refused for a full text changes nothing", TextEdgesTest::fullTextChangesNothing);
        Check.sentence("5: the letter becomes t[j] at the old length + 1, up to 256", TextEdgesTest::lengthsOneToFull);
        Check.sentence("5: the answer lies in 0..k+1", TextEdgesTest::errorsFromZeroToCap);
        Check.sentence("5: D values of the earlier positions are unchanged by feed", TextEdgesTest::earlierErrorsStay);
        Check.sentence("5: the pattern, the compiled flag and k are unchanged by feed",
            TextEdgesTest::feedKeepsPatternCompiledAndK);

        Check.sentence("6: resetText always works: the text length is 0", TextEdgesTest::resetAlwaysWorks);
        Check.sentence("6: the pattern and the compiled flag are unchanged by resetText",
            TextEdgesTest::resetKeepsPatternAndCompiled);
        Check.sentence("6: after resetText feeds start again at t[1], with the same L and k",
            TextEdgesTest::resetBeginsAgain);
        Check.sentence("6: when the object is not compiled resetText changes nothing", TextEdgesTest::resetWhenNotCompiled);

        Check.sentence("13: textLength answers the number of letters, 0..256", TextEdgesTest::textLengthZeroToFull);
        Check.sentence("13: textLength is 0 whenever the object is not compiled", TextEdgesTest::textLengthWhenNotCompiled);
        Check.sentence("13: textLength changes nothing", TextEdgesTest::textLengthChangesNothing);
        Check.end();
    }

    private static void notCompiledWhateverTheChar() {
        for (State state : State.unready()) {
            ApproxRegexSearch x = state.make();
            for (int code = 0; code <= Character.MAX_VALUE; code++) {
                Check.due("feed of code " + code + " in state " + state.name, x.feed((char) code), -3);
            }
        }
    }

    private static void everyOtherCharIsRefused() {
        for (State state : State.ready()) {
            ApproxRegexSearch x = state.make();
            for (int code = 0; code <= Character.MAX_VALUE; code++) {
                if (code < 'a' || code > 'z') {
                    Check.due("feed of code " + code + " in state " + state.name, x.feed((char) code), -1);
                }
            }
        }
    }

    private static void operatorsAreNoLetters() {
        for (char c : ".[]()|*+?".toCharArray()) {
            ApproxRegexSearch x = Check.compiled(1, ".*");
            Check.due("feed of " + c, x.feed(c), -1);
            Check.due("textLength after " + c, x.textLength(), 0);
        }
    }

    private static void fullTextRefuses() {
        for (State state : State.withFullText()) {
            for (char c : LETTERS.toCharArray()) {
                ApproxRegexSearch x = state.make();
                Check.due("feed of " + c + " in state " + state.name, x.feed(c), -2);
                Check.due("once more", x.feed(c), -2);
            }
        }
        for (char c : LETTERS.toCharArray()) {
            ApproxRegexSearch x = Check.compiled(0, "[amz]");
            for (int j = 1; j <= 255; j++) {
                x.feed('b');
            }
            Check.due("the 256th letter " + c, x.feed(c), "amz".indexOf(c) >= 0 ? 0 : 1);
            Check.due("the 257th letter " + c, x.feed(c), -2);
        }
    }

    private static void badCharOnFullText() {
        for (State state : State.withFullText()) {
            for (char c : NO_LETTERS) {
                Check.due("feed of code " + (int) c + " in state " + state.name, state.make().feed(c), -1);
            }
        }
    }

    private static void notCompiledChangesNothing() {
        for (State state : State.unready()) {
            for (char c : "az.A".toCharArray()) {
                Later.unchanged("feed of " + c, state, x -> Check.due("feed", x.feed(c), -3));
            }
            Later.unchanged("many feeds", state, x -> {
                for (char c : LETTERS.repeat(12).toCharArray()) {
                    x.feed(c);
                }
            });
        }
    }

    private static void badCharChangesNothing() {
        for (State state : State.ready()) {
            for (char c : NO_LETTERS) {
                Later.unchanged("feed of code " + (int) c, state, x -> Check.due("feed", x.feed(c), -1));
            }
            Later.unchanged("every code that is no letter", state, x -> {
                for (int code = 0; code <= Character.MAX_VALUE; code++) {
                    if (code < 'a' || code > 'z') {
                        x.feed((char) code);
                    }
                }
            });
        }
    }

    private static void fullTextChangesNothing() {
        for (State state : State.withFullText()) {
            for (char c : LETTERS.toCharArray()) {
                Later.unchanged("257th letter " + c, state, x -> Check.due("feed", x.feed(c), -2));
            }
            Later.unchanged("many more letters", state, x -> {
                for (char c : LETTERS.repeat(12).toCharArray()) {
                    x.feed(c);
                }
            });
        }
    }

    private static void lengthsOneToFull() {
        ApproxRegexSearch x = Check.compiled(0, "b");
        // The second round turns every answer round, so that no value of the first can stand in for it.
        for (int round = 0; round < 2; round++) {
            x.resetText();
            for (int j = 1; j <= 256; j++) {
                Check.due("feed " + j, x.feed(j % 3 == round ? 'b' : 'a'), j % 3 == round ? 0 : 1);
                Check.due("textLength at " + j, x.textLength(), j);
            }
            for (int j = 1; j <= 256; j++) {
                Check.due("errorsAt(" + j + ")", x.errorsAt(j), j % 3 == round ? 0 : 1);
            }
        }
    }

    private static void errorsFromZeroToCap() {
        for (int k = 0; k <= 7; k++) {
            for (int length = 1; length <= 10; length++) {
                ApproxRegexSearch x = Check.compiled(k, "a".repeat(length));
                Check.due("no letter right, k " + k, x.feed('z'), Math.min(k + 1, length));
                for (int right = 1; right <= length; right++) {
                    int want = Math.min(k + 1, length - right);
                    Check.due(right + " of " + length + " letters right, k " + k, x.feed('a'), want);
                }
            }
        }
    }

    private static void earlierErrorsStay() {
        ApproxRegexSearch x = Check.compiled(4, "ab(c|d)*ba");
        int[] answered = new int[257];
        answered[0] = x.errorsAt(0);
        for (int j = 1; j <= 256; j++) {
            answered[j] = x.feed("abcdbazabdcxbabb".charAt(j * 7 % 16));
            for (int i = 0; i <= j; i++) {
                Check.due("errorsAt(" + i + ") at length " + j, x.errorsAt(i), answered[i]);
            }
        }
    }

    private static void feedKeepsPatternCompiledAndK() {
        for (State state : State.chosen(s -> s.compiled && s.text.length() < 256)) {
            ApproxRegexSearch x = state.make();
            int positions = x.positions();
            int minLength = x.minLength();
            x.feed('q');
            Check.due("patternLength in state " + state.name, x.patternLength(), state.pattern.length());
            Check.due("isCompiled", x.isCompiled(), true);
            Check.due("getK", x.getK(), state.k);
            Check.due("positions", x.positions(), positions);
            Check.due("minLength", x.minLength(), minLength);
            Later.alike("feed, then a new text", state, y -> {
                y.feed('q');
                y.resetText();
            }, y -> {
                Check.enter(y, state.pattern);
                y.compile();
            });
        }
    }

    private static void resetAlwaysWorks() {
        for (State state : State.all()) {
            ApproxRegexSearch x = state.make();
            x.resetText();
            Check.due("textLength in state " + state.name, x.textLength(), 0);
            Check.due("errorsAt(1)", x.errorsAt(1), state.compiled ? -7 : -3);
            Check.due("countWithin", x.countWithin(Integer.MAX_VALUE), state.compiled ? 0 : -3);
            x.resetText();
            Check.due("textLength after the second", x.textLength(), 0);
        }
    }

    private static void resetKeepsPatternAndCompiled() {
        for (State state : State.all()) {
            ApproxRegexSearch x = state.make();
            x.resetText();
            Check.due("isCompiled in state " + state.name, x.isCompiled(), state.compiled);
            Check.due("patternLength in state " + state.name, x.patternLength(), state.pattern.length());
            Check.due("compile in state " + state.name, x.compile(), Oracle.compileAnswer(state.pattern));
        }
    }

    private static void resetBeginsAgain() {
        for (State state : State.ready()) {
            Later.alike("reset", state, ApproxRegexSearch::resetText, x -> {
                Check.enter(x, state.pattern);
                x.compile();
            });
        }
        ApproxRegexSearch x = Check.compiled(3, "abcd");
        for (int round = 0; round < 300; round++) {
            Check.feedAll(x, "abc", 3, 2, 1);
            x.resetText();
            Check.feedAll(x, "d", 3);
            Check.due("errorsAt(0)", x.errorsAt(0), 4);
            Check.due("errorsAt(1)", x.errorsAt(1), 3);
            Check.due("textLength", x.textLength(), 1);
            Check.due("wholeDistance", x.wholeDistance(), 3);
            x.resetText();
        }
    }

    private static void resetWhenNotCompiled() {
        for (State state : State.unready()) {
            Later.unchanged("resetText", state, ApproxRegexSearch::resetText);
        }
    }

    private static void textLengthZeroToFull() {
        ApproxRegexSearch x = Check.compiled(0, "ab");
        for (int j = 0; j <= 256; j++) {
            Check.due("textLength after " + j, x.textLength(), j);
            x.feed('.');
            Check.due("textLength after a refused letter", x.textLength(), j);
            x.feed('a');
        }
        Check.due("textLength after 257", x.textLength(), 256);
        for (State state : State.all()) {
            Check.due("textLength in state " + state.name, state.make().textLength(), state.text.length());
        }
    }

    private static void textLengthWhenNotCompiled() {
        for (State state : State.unready()) {
            ApproxRegexSearch x = state.make();
            Check.due("textLength in state " + state.name, x.textLength(), 0);
            x.feed('a');
            Check.due("textLength after a refused feed in state " + state.name, x.textLength(), 0);
        }
        for (State state : State.ready()) {
            ApproxRegexSearch x = state.make();
            x.clearPattern();
            Check.due("textLength after clearPattern in state " + state.name, x.textLength(), 0);
            ApproxRegexSearch y = state.make();
            if (y.patternChar('a') > 0) {
                Check.due("textLength after patternChar in state " + state.name, y.textLength(), 0);
            }
        }
    }

    private static void textLengthChangesNothing() {
        for (State state : State.all()) {
            Later.unchanged("textLength", state, ApproxRegexSearch::textLength);
        }
    }
}
