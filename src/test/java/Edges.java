/** Runs that try a sentence of the document at its bounds. */
final class Edges {
    static final int BAD = -1, NO = -2, FULL = -3, NONE = -4;
    static final long CERTAIN = 281474976710656L;
    /** One sixty-fourth, as chances are told. */
    static final long SHARE = CERTAIN / 64;

    /** Numbers that are far off, and those that a cut to fewer bits would make small. */
    private static final long[] FAR = {
        Integer.MIN_VALUE, Integer.MIN_VALUE + 1, Integer.MIN_VALUE + 12, Integer.MAX_VALUE - 1, Integer.MAX_VALUE,
        -65536, 65536, -256, 256, 65537, -13, -12, 4096, 1 << 30,
    };
    private static final long[] FAR_LIMITS = {
        Long.MIN_VALUE, Long.MIN_VALUE + 1, Long.MAX_VALUE - 1, Long.MAX_VALUE, Integer.MIN_VALUE, -(1L << 32),
        1L << 56, 1L << 62,
    };

    private final Check check;
    private String sentence = "";

    Edges(Check check) {
        this.check = check;
    }

    /** The document's words that are tried until the next ones. */
    void sentence(String words) {
        sentence = words;
    }

    Run run(String setup) {
        return new Run(check, sentence).does(setup);
    }

    /** A call on a new object that is as the setup says. */
    void due(long due, String setup, String call) {
        run(setup).due(due, call);
    }

    /** The call's ? may be least to greatest, and is BAD on both sides of them. */
    void range(String setup, String call, long least, long dueAtLeast, long greatest, long dueAtGreatest) {
        due(dueAtLeast, setup, with(call, least));
        due(dueAtGreatest, setup, with(call, greatest));
        badBeside(setup, call, least, greatest, FAR);
    }

    void rangeOfLimits(String setup, String call, long least, long dueAtLeast, long greatest, long dueAtGreatest) {
        due(dueAtLeast, setup, with(call, least));
        due(dueAtGreatest, setup, with(call, greatest));
        badBeside(setup, call, least, greatest, FAR_LIMITS);
    }

    /** No number at all may stand for the call's ?. */
    void never(String setup, String call) {
        Run run = run(setup);
        for (int number = -1; number <= 25; number++) {
            run.due(BAD, with(call, number));
        }
        for (long number : FAR) {
            run.due(BAD, with(call, number));
        }
    }

    private void badBeside(String setup, String call, long least, long greatest, long[] far) {
        Run run = run(setup);
        run.due(BAD, with(call, least - 1));
        run.due(BAD, with(call, greatest + 1));
        for (long number : far) {
            if (number < least || number > greatest) {
                run.due(BAD, with(call, number));
            }
        }
    }

    static String with(String call, long number) {
        return call.replace("?", Long.toString(number));
    }

    /** The same call some times, as a setup. */
    static String times(int times, String call) {
        return String.join(", ", java.util.Collections.nCopies(times, call));
    }

    /** A call for each number from 0 on, as a setup. */
    static String each(int times, String call) {
        StringBuilder text = new StringBuilder();
        for (int i = 0; i < times; i++) {
            text.append(i == 0 ? "" : ", ").append(with(call, i));
        }
        return text.toString();
    }
}
