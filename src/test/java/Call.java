import java.util.function.Consumer;
import java.util.function.ToIntFunction;

/** Calls of each kind that the face has, those included that some states refuse. */
enum Call {
    PATTERN_LETTER(x -> x.patternChar('a')),
    PATTERN_OPERATOR(x -> x.patternChar('*')),
    PATTERN_BAD_CHAR(x -> x.patternChar('A')),
    CLEAR_PATTERN(nothingAnswered(x -> x.clearPattern())),
    COMPILE(x -> x.compile()),
    FEED(x -> x.feed('a')),
    FEED_BAD_CHAR(x -> x.feed('.')),
    RESET_TEXT(nothingAnswered(x -> x.resetText())),
    GET_K(x -> x.getK()),
    PATTERN_LENGTH(x -> x.patternLength()),
    IS_COMPILED(x -> x.isCompiled() ? 1 : 0),
    POSITIONS(x -> x.positions()),
    NULLABLE(x -> x.nullable() ? 1 : 0),
    MIN_LENGTH(x -> x.minLength()),
    TEXT_LENGTH(x -> x.textLength()),
    ERRORS_AT_START(x -> x.errorsAt(0)),
    ERRORS_AT_END(x -> x.errorsAt(x.textLength())),
    ERRORS_BELOW(x -> x.errorsAt(-1)),
    ERRORS_ABOVE(x -> x.errorsAt(x.textLength() + 1)),
    ERRORS_OF_LEAST(x -> x.errorsAt(Integer.MIN_VALUE)),
    ERRORS_OF_GREATEST(x -> x.errorsAt(Integer.MAX_VALUE)),
    WHOLE_DISTANCE(x -> x.wholeDistance()),
    COUNT(x -> x.countWithin(1)),
    COUNT_OF_LEAST(x -> x.countWithin(Integer.MIN_VALUE)),
    COUNT_OF_GREATEST(x -> x.countWithin(Integer.MAX_VALUE)),
    FIRST(x -> x.firstWithin(1)),
    FIRST_OF_LEAST(x -> x.firstWithin(Integer.MIN_VALUE)),
    FIRST_OF_GREATEST(x -> x.firstWithin(Integer.MAX_VALUE));

    private final ToIntFunction<ApproxRegexSearch> call;

    Call(ToIntFunction<ApproxRegexSearch> call) {
        this.call = call;
    }

    private static ToIntFunction<ApproxRegexSearch> nothingAnswered(Consumer<ApproxRegexSearch> call) {
        return x -> {
            call.accept(x);
            return 0;
        };
    }

    int on(ApproxRegexSearch x) {
        return call.applyAsInt(x);
    }
}
