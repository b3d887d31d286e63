/** All promises at once: long made-up runs of calls, each answer against a plain model of the state. */
public final class OracleTest {
    private static final String ALL = "abcdefghijklmnopqrstuvwxyz.[]()|*+?";
    private static long seed = 20261115L;

    private int k;
    private String pattern = "";
    private boolean compiled = false;
    private String text = "";
    private int[][] distances = null;

    public static void main(String[] args) {
        patterns();
        runs();
        longRuns();
        Check.end();
    }

    // A made-up sequence of its own, so that every run of the test is the same.
    private static int pick(int bound) {
        seed = seed * 6364136223846793005L + 1442695040888963407L;
        return (int) ((seed >>> 33) % bound);
    }

    private static String letters(int length, int alphabet) {
        StringBuilder s = new StringBuilder();
        for (int i = 0; i < length; i++) {
            s.append((char) ('a' + pick(alphabet)));
        }
        return s.toString();
    }

    private static String madePattern(int depth) {
        switch (depth <= 0 ? pick(4) : pick(11)) {
            case 0: case 1: return letters(1, 3);
            case 2: return ".";
            case 3: return "[" + letters(1 + pick(3), 4) + "]";
            case 4: return "(" + madePattern(depth - 1) + "|" + madePattern(depth - 1) + ")";
            case 5: case 6: return "(" + madePattern(depth - 1) + ")" + "*+?".charAt(pick(3));
            case 7: return madePattern(depth - 1) + "|" + madePattern(depth - 1);
            default: return madePattern(depth - 1) + madePattern(depth - 1);
        }
    }

    private static String fittingPattern(int depth) {
        String s = madePattern(depth);
        while (s.length() > 64) {
            s = madePattern(depth);
        }
        return s;
    }

    private static void patterns() {
        for (int n = 0; n < 6000; n++) {
            String pattern = fittingPattern(1 + pick(6));
            String text = letters(pick(15), 2 + pick(3));
            int[][] d = Oracle.distances(pattern, text);
            int k = pick(8);
            String what = " for k " + k + ", pattern " + pattern + ", text " + text;
            ApproxRegexSearch x = new ApproxRegexSearch(k);
            Check.enter(x, pattern);
            Check.due("compile" + what, x.compile(), Oracle.compileAnswer(pattern));
            Check.due("minLength" + what, x.minLength(), d[0][0]);
            Check.due("nullable" + what, x.nullable(), d[0][0] == 0);
            Check.due("errorsAt(0)" + what, x.errorsAt(0), Math.min(k + 1, d[0][0]));
            for (int j = 0; j <= text.length(); j++) {
                if (j > 0) {
                    int want = Math.min(k + 1, Oracle.best(d, j));
                    Check.due("feed " + j + what, x.feed(text.charAt(j - 1)), want);
                }
                Check.due("wholeDistance at " + j + what, x.wholeDistance(), Math.min(k + 1, d[0][j]));
            }
        }
    }

    private static void runs() {
        for (int n = 0; n < 400; n++) {
            OracleTest model = new OracleTest();
            int given = pick(12) - 2;
            model.k = Math.max(0, Math.min(7, given));
            ApproxRegexSearch x = new ApproxRegexSearch(given);
            for (int step = 0; step < 60; step++) {
                model.call(x);
                Check.same("state after step " + step + " with pattern " + model.pattern + " and text " + model.text,
                    Check.seen(x), model.seen());
            }
        }
    }

    private void call(ApproxRegexSearch x) {
        int kind = pick(20);
        if (kind < 2) {
            String more = pick(3) == 0 ? "" + ALL.charAt(pick(ALL.length())) : fittingPattern(pick(4));
            for (char c : more.toCharArray()) {
                Check.due("patternChar " + c, x.patternChar(c), pattern.length() < 64 ? append(c) : -2);
            }
        } else if (kind == 2) {
            Check.due("patternChar, not allowed", x.patternChar("A0 {`^,\u00ff".charAt(pick(8))), -1);
        } else if (kind == 3) {
            x.clearPattern();
            pattern = "";
            compiled = false;
            setText("");
        } else if (kind < 7) {
            int want = Oracle.compileAnswer(pattern);
            Check.due("compile of " + pattern, x.compile(), want);
            if (want > 0) {
                compiled = true;
                setText("");
            }
        } else if (kind == 7) {
            x.resetText();
            setText("");
        } else if (kind == 8) {
            Check.due("feed, not a letter", x.feed(".*A{`".charAt(pick(5))), compiled ? -1 : -3);
        } else {
            char c = (char) ('a' + pick(4));
            if (compiled) {
                setText(text + c);
            }
            int want = compiled ? at(text.length()) : -3;
            Check.due("feed of " + c + " for " + pattern, x.feed(c), want);
        }
    }

    private int append(char c) {
        pattern += c;
        compiled = false;
        setText("");
        return pattern.length();
    }

    private void setText(String newText) {
        text = newText;
        if (compiled) {
            distances = Oracle.distances(pattern, text);
        }
    }

    private int at(int j) {
        return Math.min(k + 1, Oracle.best(distances, j));
    }

    /** The same line as Check.seen, from the model. */
    private String seen() {
        StringBuilder s = new StringBuilder();
        s.append(k).append(' ').append(pattern.length()).append(' ').append(compiled);
        s.append(' ').append(compiled ? Oracle.compileAnswer(pattern) : -3);
        s.append(' ').append(compiled && distances[0][0] == 0);
        s.append(' ').append(compiled ? distances[0][0] : -3).append(' ').append(text.length());
        s.append(' ').append(compiled ? Math.min(k + 1, distances[0][text.length()]) : -3).append(" :");
        for (int j = -1; j <= text.length() + 1; j++) {
            boolean inside = j >= 0 && j <= text.length();
            s.append(' ').append(!compiled ? -3 : inside ? at(j) : -7);
        }
        s.append(" :");
        for (int e = -1; e <= 9; e++) {
            s.append(' ').append(compiled ? count(e) : -3).append('/').append(compiled ? first(e) : -3);
        }
        return s.toString();
    }

    private int count(int e) {
        int count = 0;
        for (int j = 1; j <= text.length(); j++) {
            count += at(j) <= e ? 1 : 0;
        }
        return count;
    }

    private int first(int e) {
        for (int j = 1; j <= text.length(); j++) {
            if (at(j) <= e) {
                return j;
            }
        }
        return 0;
    }

    // Texts up to the capacity, and patterns up to the most positions.
    private static void longRuns() {
        String[] long63 = {letters(63, 2), "(" + letters(61, 3) + ")*", letters(31, 2) + "|" + letters(31, 2),
            letters(20, 2) + "(" + letters(18, 2) + ")*" + letters(20, 2), ".".repeat(62) + "z", "a?".repeat(32)};
        for (String pattern : long63) {
            String text = letters(100, 2) + pattern.replaceAll("[^a-z]", "") + letters(93, 2);
            text = text.substring(0, Math.min(256, text.length()));
            int[][] d = Oracle.distances(pattern, text);
            for (int k = 0; k <= 7; k += 7) {
                ApproxRegexSearch x = Check.compiled(k, pattern);
                for (int j = 1; j <= text.length(); j++) {
                    int want = Math.min(k + 1, Oracle.best(d, j));
                    Check.due("feed " + j + " for " + pattern, x.feed(text.charAt(j - 1)), want);
                    Check.due("whole at " + j + " for " + pattern, x.wholeDistance(), Math.min(k + 1, d[0][j]));
                }
            }
        }
    }
}
