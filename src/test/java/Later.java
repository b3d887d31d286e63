import java.util.HashMap;
import java.util.Map;
import java.util.function.Consumer;

/** Finds the trace that a call left on an object, by everything that later calls answer. */
final class Later {
    private static final String[] TEXTS = {"abcdxadbzacbda", "efghabcdefgh", "ad".repeat(8), "cabd".repeat(65)};
    private static final String[] ENDINGS = {"a", "b*c", ".", "[ab]", "(a)", "|b", "*", "+", "?", ")", "]", "a)", "a]",
        "))", "|", "(", "[", "b".repeat(65)};
    private static final int ASKS = Call.values().length;
    private static final int FEEDS = ASKS + TEXTS.length;
    private static final int RESETS = FEEDS + TEXTS.length;
    private static final int APPENDS = RESETS + ENDINGS.length;
    private static final int WAYS = APPENDS + 2;

    private static final Map<String, String> untouched = new HashMap<>();

    private Later() {
    }

    /** The call must leave the state as it was: with it and without it, all later calls answer alike. */
    static void unchanged(String what, State state, Consumer<ApproxRegexSearch> call) {
        for (int way = 0; way < WAYS; way++) {
            ApproxRegexSearch called = state.make();
            call.accept(called);
            Check.same(what + ", state " + state.name + ", later calls " + way, tale(called, way), untouched(state, way));
        }
    }

    /** After the call, all later calls must answer as on a new object with the other calls behind it. */
    static void alike(String what, State state, Consumer<ApproxRegexSearch> call, Consumer<ApproxRegexSearch> fresh) {
        for (int way = 0; way < WAYS; way++) {
            ApproxRegexSearch called = state.make();
            call.accept(called);
            ApproxRegexSearch other = new ApproxRegexSearch(state.k);
            fresh.accept(other);
            Check.same(what + ", state " + state.name + ", later calls " + way, tale(called, way), tale(other, way));
        }
    }

    private static String untouched(State state, int way) {
        return untouched.computeIfAbsent(state.name + way, key -> tale(state.make(), way));
    }

    // Each way begins with another call, because a call that comes first could hide the trace from the next.
    private static String tale(ApproxRegexSearch x, int way) {
        if (way < ASKS) {
            return Call.values()[way].on(x) + " " + Check.seen(x);
        }
        if (way < FEEDS) {
            return feeds(x, TEXTS[way - ASKS]) + Check.seen(x);
        }
        if (way < RESETS) {
            x.resetText();
            return feedsAndWholes(x, TEXTS[way - FEEDS]) + Check.seen(x);
        }
        if (way < APPENDS) {
            return entered(x, ENDINGS[way - RESETS]) + compiles(x);
        }
        if (way == APPENDS) {
            return compiles(x);
        }
        x.clearPattern();
        return Check.seen(x) + x.compile() + entered(x, "b[cd]*|ad") + compiles(x);
    }

    private static String feeds(ApproxRegexSearch x, String text) {
        StringBuilder s = new StringBuilder(" feeds");
        for (char c : text.toCharArray()) {
            s.append(' ').append(x.feed(c));
        }
        return s.append(' ').toString();
    }

    private static String feedsAndWholes(ApproxRegexSearch x, String text) {
        StringBuilder s = new StringBuilder(" feeds and wholes");
        for (char c : text.toCharArray()) {
            s.append(' ').append(x.feed(c)).append('/').append(x.wholeDistance());
        }
        return s.append(' ').toString();
    }

    private static String entered(ApproxRegexSearch x, String pattern) {
        StringBuilder s = new StringBuilder(" enters");
        for (char c : pattern.toCharArray()) {
            s.append(' ').append(x.patternChar(c));
        }
        return s.append(' ').append(Check.seen(x)).toString();
    }

    private static String compiles(ApproxRegexSearch x) {
        StringBuilder s = new StringBuilder(" compile ").append(x.compile()).append(' ').append(Check.seen(x));
        s.append(feedsAndWholes(x, "zabcdacbdabb")).append(Check.seen(x));
        x.resetText();
        return s.append(feeds(x, "ad".repeat(8))).append(Check.seen(x)).toString();
    }
}
