/**
 * A second way to the same answers, with no automaton in it: a parser that follows the grammar rule
 * by rule, and for each part of the pattern a table of its distance to every piece of the text.
 */
final class Oracle {
    private static final int FAR = 1_000_000;

    private final String pattern;
    private String text = "";
    private int at = 0;
    private boolean wrong = false;
    private int positions = 0;

    private Oracle(String pattern) {
        this.pattern = pattern;
    }

    /** What compile answers for this pattern. */
    static int compileAnswer(String pattern) {
        if (pattern.isEmpty()) {
            return ApproxRegexSearch.ERR_EMPTY;
        }
        Oracle o = new Oracle(pattern);
        o.parse();
        if (o.wrong) {
            return ApproxRegexSearch.ERR_SYNTAX;
        }
        return o.positions > 63 ? ApproxRegexSearch.ERR_TOO_MANY : o.positions;
    }

    /** distance[i][j]: the least lev(w, text[i..j)) over the words w of a valid pattern, not capped. */
    static int[][] distances(String pattern, String text) {
        Oracle o = new Oracle(pattern);
        o.text = text;
        return o.parse();
    }

    static int best(int[][] distances, int end) {
        int best = FAR;
        for (int i = 0; i <= end; i++) {
            best = Math.min(best, distances[i][end]);
        }
        return best;
    }

    private int[][] parse() {
        int[][] all = expr();
        if (at < pattern.length()) {
            wrong = true;
        }
        return all;
    }

    private boolean next(String oneOf) {
        return at < pattern.length() && oneOf.indexOf(pattern.charAt(at)) >= 0;
    }

    private boolean nextIsLetter() {
        return next("abcdefghijklmnopqrstuvwxyz");
    }

    private int[][] expr() {
        int[][] all = branch();
        while (!wrong && next("|")) {
            at++;
            all = least(all, branch());
        }
        return all;
    }

    private int[][] branch() {
        int[][] all = piece();
        while (!wrong && (nextIsLetter() || next(".[("))) {
            all = joined(all, piece());
        }
        return all;
    }

    private int[][] piece() {
        int[][] all = atom();
        while (!wrong && next("*+?")) {
            char c = pattern.charAt(at);
            at++;
            if (c == '*') {
                all = starred(all);
            } else if (c == '+') {
                all = joined(all, starred(all));
            } else {
                all = least(all, ofEmptyWord());
            }
        }
        return all;
    }

    private int[][] atom() {
        if (nextIsLetter()) {
            at++;
            return ofOneLetter(pattern.substring(at - 1, at));
        }
        if (next(".")) {
            at++;
            return ofOneLetter("abcdefghijklmnopqrstuvwxyz");
        }
        if (next("[")) {
            return letterClass();
        }
        if (next("(")) {
            at++;
            int[][] all = expr();
            if (wrong || !next(")")) {
                wrong = true;
                return all;
            }
            at++;
            return all;
        }
        wrong = true;
        return ofEmptyWord();
    }

    private int[][] letterClass() {
        at++;
        int from = at;
        while (nextIsLetter()) {
            at++;
        }
        if (at == from || !next("]")) {
            wrong = true;
            return ofEmptyWord();
        }
        at++;
        return ofOneLetter(pattern.substring(from, at - 1));
    }

    private int[][] table() {
        return new int[text.length() + 1][text.length() + 1];
    }

    private int[][] ofEmptyWord() {
        int[][] d = table();
        for (int i = 0; i < d.length; i++) {
            for (int j = i; j < d.length; j++) {
                d[i][j] = j - i;
            }
        }
        return d;
    }

    private int[][] ofOneLetter(String letters) {
        positions++;
        int[][] d = table();
        for (int i = 0; i < d.length; i++) {
            boolean there = false;
            d[i][i] = 1;
            for (int j = i + 1; j < d.length; j++) {
                there |= letters.indexOf(text.charAt(j - 1)) >= 0;
                d[i][j] = there ? j - i - 1 : j - i;
            }
        }
        return d;
    }

    private int[][] least(int[][] a, int[][] b) {
        int[][] d = table();
        for (int i = 0; i < d.length; i++) {
            for (int j = i; j < d.length; j++) {
                d[i][j] = Math.min(a[i][j], b[i][j]);
            }
        }
        return d;
    }

    private int[][] joined(int[][] a, int[][] b) {
        int[][] d = table();
        for (int i = 0; i < d.length; i++) {
            for (int j = i; j < d.length; j++) {
                d[i][j] = FAR;
                for (int m = i; m <= j; m++) {
                    d[i][j] = Math.min(d[i][j], a[i][m] + b[m][j]);
                }
            }
        }
        return d;
    }

    private int[][] starred(int[][] a) {
        int[][] d = ofEmptyWord();
        for (int i = d.length - 1; i >= 0; i--) {
            for (int j = i + 1; j < d.length; j++) {
                for (int m = i + 1; m <= j; m++) {
                    d[i][j] = Math.min(d[i][j], a[i][m] + d[m][j]);
                }
            }
        }
        return d;
    }
}
