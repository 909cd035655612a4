/** A new object and the calls on it: no more than the document says that an object is used for. */
final class Run {
    private static final int MOST_CALLS = 512;

    private final Check check;
    private final String sentence;
    private final SaveLoops loops = new SaveLoops();
    private int calls = 0;

    Run(Check check, String sentence) {
        this.check = check;
        this.sentence = sentence;
    }

    long answer(Call call) {
        calls++;
        if (calls > MOST_CALLS) {
            throw new IllegalStateException("a test uses an object too often: " + sentence);
        }
        return call.on(loops);
    }

    long answer(String call) {
        return answer(new Call(call));
    }

    void due(long due, String call) {
        check.due("\"" + sentence + "\": " + call, due, answer(call));
    }

    /** Calls that must not be refused. */
    Run does(String texts) {
        return does(Call.all(texts));
    }

    Run does(Call[] each) {
        for (Call call : each) {
            long answered = answer(call);
            check.that("\"" + sentence + "\": " + call + " is not refused, but answered " + answered, answered >= 0);
        }
        return this;
    }

    int callsLeft() {
        return MOST_CALLS - calls;
    }
}
