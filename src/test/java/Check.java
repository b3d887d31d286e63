import java.util.Set;
import java.util.TreeSet;

/** Counts and prints the answers that are not the due ones; every test of the project ends with it. */
final class Check {
    private static final int MOST_LINES = 50;
    private static final int AROUND = 60;
    private static int wrong = 0;
    private static String sentence = "";
    private static final Set<String> broken = new TreeSet<>();

    private Check() {
    }

    /** Runs the test of one sentence of the document; a failure tells the sentence, and the other tests still run. */
    static void sentence(String promiseAndSentence, Runnable test) {
        sentence = promiseAndSentence;
        try {
            test.run();
        } catch (RuntimeException thrown) {
            tell("a call threw " + thrown);
        }
        sentence = "";
    }

    private static void tell(String line) {
        wrong++;
        boolean first = broken.add(sentence);
        if (first || wrong <= MOST_LINES) {
            System.out.println((sentence.isEmpty() ? "" : "[" + sentence + "] ") + line);
        }
    }

    static void due(String what, long got, long want) {
        if (got != want) {
            tell(what + " answered " + got + ", due is " + want);
        }
    }

    static void due(String what, boolean got, boolean want) {
        due(what, got ? 1L : 0L, want ? 1L : 0L);
    }

    /** Enters a pattern and looks at every answered length. */
    static void enter(ApproxRegexSearch x, String pattern) {
        int before = x.patternLength();
        for (int i = 0; i < pattern.length(); i++) {
            due("patternChar of " + pattern + " at " + i, x.patternChar(pattern.charAt(i)), before + i + 1);
        }
    }

    static ApproxRegexSearch compiled(int k, String pattern) {
        ApproxRegexSearch x = new ApproxRegexSearch(k);
        enter(x, pattern);
        due("compile of " + pattern + " works", x.compile() > 0, true);
        return x;
    }

    static void feedAll(ApproxRegexSearch x, String text, int... errors) {
        for (int i = 0; i < text.length(); i++) {
            due("feed of " + text + " at " + (i + 1), x.feed(text.charAt(i)), errors[i]);
        }
    }

    /** Everything that can be seen of an object, for telling whether a call changed something. */
    static String seen(ApproxRegexSearch x) {
        StringBuilder s = new StringBuilder();
        s.append(x.getK()).append(' ').append(x.patternLength()).append(' ').append(x.isCompiled());
        s.append(' ').append(x.positions()).append(' ').append(x.nullable()).append(' ').append(x.minLength());
        s.append(' ').append(x.textLength()).append(' ').append(x.wholeDistance()).append(" :");
        for (int j = -1; j <= x.textLength() + 1; j++) {
            s.append(' ').append(x.errorsAt(j));
        }
        s.append(" :");
        for (int e = -1; e <= 9; e++) {
            s.append(' ').append(x.countWithin(e)).append('/').append(x.firstWithin(e));
        }
        return s.toString();
    }

    static void same(String what, String got, String want) {
        if (!got.equals(want)) {
            int at = 0;
            while (at < got.length() && at < want.length() && got.charAt(at) == want.charAt(at)) {
                at++;
            }
            tell(what + ": seen is " + around(got, at) + ", due is " + around(want, at));
        }
    }

    private static String around(String s, int at) {
        int from = Math.max(0, at - AROUND);
        int to = Math.min(s.length(), at + AROUND);
        return (from > 0 ? ".." : "") + s.substring(from, to) + (to < s.length() ? ".." : "");
    }

    static void end() {
        System.out.println(wrong == 0 ? "all answers are as due" : wrong + " answers are not as due");
        if (wrong != 0) {
            System.exit(1);
        }
    }
}
