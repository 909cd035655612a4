import java.util.ArrayList;
import java.util.List;
import java.util.Map;
import java.util.Set;

/**
 * "BAD: a number is none that is told, there is no such thing. NO: not as things stand. FULL. Of several the first;
 * nothing changes then." Every call with numbers on both sides of every bound, in all their combinations, on objects
 * that hold nothing, something and all that may be there: the answer is the slow model's, and behind calls that were
 * refused, or that only ask, all answers are as they were.
 */
public final class RefusalTest {
    private static final long CERTAIN = Edges.CERTAIN;
    private static final long LEAST = Integer.MIN_VALUE, GREATEST = Integer.MAX_VALUE;

    private static final String SOME = "part 1 1 3, part 0 3 5, part 2 0 1, vote 1 2 0 1 0 0, vote 2 2 12 2 0 0, group 3 3, "
        + "test 0 9, test 0 30, test 1 12, bypass 1 20 30, cost 0 5, cost 2 0";
    /** VOTE 2 has 8 PARTS and a GROUP, VOTE 3 has 9 PARTS. */
    private static final String CROWDED = Edges.each(10, "part ? 1 ?") + ", vote 1 4 0 1 2 3, vote 1 4 4 5 6 7, "
        + "vote 1 2 12 13 0 0, vote 1 2 14 8 0 0, group 1 384, bypass 0 9 9, test 8 9";
    private static final String ALL = Edges.each(12, "part ? 1 ?") + ", " + Edges.each(12, "test 0 ?9") + ", test 2 999, "
        + Edges.each(10, "bypass ? 500 50?") + ", " + Edges.times(10, "bypass 11 0 0")
        + ", group 1 7, group 2 3072, group 0 4095, group 64 6, vote 1 2 0 1 0 0, vote 2 3 2 1 0 0, vote 1 1 11 0 0 0, "
        + "vote 1 4 3 4 5 6, vote 1 4 7 8 9 10, vote 1 2 15 16 0 0, vote 2 3 12 13 0 0, "
        + Edges.times(5, "vote 3 3 3 4 5 0") + ", cost 0 1000, cost 11 0";

    private static final Set<String> CHANGES = Set.of("part", "test", "noTests", "bypass", "group", "vote", "cost");

    /** Each word in capitals stands for its numbers below. */
    private static final String[] CALLS = {
        "part SHARE SHARE SHARE", "test PART DAY", "noTests PART DAY", "bypass PART DAY DAY", "bypassed PART DAY DAY",
        "group SHARE BITS", "vote SIZE SIZE INPUT FEW ANY FEW", "share PART DAY", "below VOTE WHAT", "shared VOTE VOTE",
        "chance VOTE DAY", "over VOTE DAY DAY", "broken VOTE DAY DAY LIMIT", "nothing VOTE", "matters VOTE PART DAY",
        "most VOTE DAY", "cost PART COST", "plan VOTE INTERVAL INTERVAL INTERVAL SUM KIND", "count WHAT",
    };

    private static final Map<String, long[]> NUMBERS = Map.ofEntries(
        Map.entry("SHARE", new long[] {LEAST, -1, 0, 64, 65, GREATEST}),
        Map.entry("PART", new long[] {LEAST, -1, 0, 2, 3, 9, 10, 11, 12, GREATEST}),
        Map.entry("VOTE", new long[] {LEAST, -1, 0, 1, 2, 3, 4, 11, 12, GREATEST}),
        Map.entry("DAY", new long[] {LEAST, -1, 0, 9, 199, 200, 999, 1000, GREATEST}),
        Map.entry("BITS", new long[] {LEAST, -1, 0, 1, 2, 3, 7, 8, 9, 1023, 1025, 4095, 4096, 4097, LEAST + 3, GREATEST}),
        Map.entry("SIZE", new long[] {LEAST, -1, 0, 1, 2, 4, 5, GREATEST}),
        Map.entry("INPUT", new long[] {LEAST, -1, 0, 2, 3, 11, 12, 13, 14, 23, 24, GREATEST}),
        Map.entry("FEW", new long[] {-1, 0, 12}),
        Map.entry("ANY", new long[] {LEAST, 1, GREATEST}),
        Map.entry("WHAT", new long[] {LEAST, -1, 0, 1, 2, 3, 4, 5, GREATEST}),
        Map.entry("COST", new long[] {LEAST, -1, 0, 1, 1000, 1001, GREATEST}),
        Map.entry("INTERVAL", new long[] {LEAST, 0, 1, 100, 101}),
        Map.entry("KIND", new long[] {-1, 0, 1, 2}),
        Map.entry("LIMIT", new long[] {Long.MIN_VALUE, -1, 0, CERTAIN, CERTAIN + 1, Long.MAX_VALUE}),
        Map.entry("SUM", new long[] {Long.MIN_VALUE, -1, 0, 20 * CERTAIN, 100 * CERTAIN, 100 * CERTAIN + 1}));

    private static final int[] TOLD_DAYS = {0, 1, 9, 10, 29, 199, 500, 999};

    private final Check check;
    private final String name;
    private final Call[] setup;
    private final String before;
    private final int room;
    private final List<Call> harmless = new ArrayList<>();
    private SlowLoops model;
    private Run run;

    public static void main(String[] args) {
        Check check = new Check("RefusalTest");
        new RefusalTest(check, "nothing is there", "").tryAll();
        new RefusalTest(check, "some are there", SOME).tryAll();
        new RefusalTest(check, "votes of too many events", CROWDED).tryAll();
        new RefusalTest(check, "all are there", ALL).tryAll();
        check.end();
    }

    private RefusalTest(Check check, String name, String setup) {
        this.check = check;
        this.name = name;
        this.setup = Call.all(setup);
        Run untouched = newRun();
        before = answers(untouched);
        room = untouched.callsLeft();
    }

    private Run newRun() {
        return new Run(check, name).does(setup);
    }

    private SlowLoops newModel() {
        SlowLoops loops = new SlowLoops();
        for (Call call : setup) {
            call.on(loops);
        }
        return loops;
    }

    private void tryAll() {
        model = newModel();
        run = newRun();
        for (String call : CALLS) {
            tryEach(call.split(" "), 1);
        }
        endRun();
    }

    private void tryEach(String[] words, int place) {
        if (check.hasFailedOften()) {
            return;
        }
        if (place == words.length) {
            tryCall(String.join(" ", words), CHANGES.contains(words[0]));
            return;
        }
        String[] told = words.clone();
        for (long number : NUMBERS.get(words[place])) {
            told[place] = Long.toString(number);
            tryEach(told, place + 1);
        }
    }

    private void tryCall(String text, boolean changes) {
        Call call = new Call(text);
        long due = call.on(model);
        if (changes && due >= 0) {
            newRun().due(due, text);
            model = newModel();
            return;
        }
        run.due(due, text);
        harmless.add(call);
        if (harmless.size() == room) {
            endRun();
        }
    }

    /** Behind many calls that change nothing all is as before; if not, each of them is tried alone. */
    private void endRun() {
        if (!before.equals(answers(run))) {
            check.that("where " + name + ", nothing changes by " + harmless, false);
            for (Call call : harmless) {
                Run alone = newRun();
                alone.answer(call);
                check.same("where " + name + ", all answers behind " + call, before, answers(alone));
            }
        }
        check.that("where " + name + ", nothing changes by " + harmless.size() + " calls", true);
        harmless.clear();
        run = newRun();
    }

    /** All that can be told of an object; last by changes, as some things are told by these alone. */
    private static String answers(Run x) {
        StringBuilder text = new StringBuilder();
        tell(x, text, Edges.each(5, "count ?"));
        int parts = (int) x.answer("count 0");
        int votes = (int) x.answer("count 4");
        for (int part = 0; part < parts; part++) {
            for (int day : TOLD_DAYS) {
                tell(x, text, "share " + part + " " + day);
            }
            tell(x, text, "bypassed " + part + " 0 999, bypassed " + part + " 0 499");
        }
        for (int vote = 0; vote < votes; vote++) {
            tell(x, text, Edges.each(3, "below " + vote + " ?"));
            tell(x, text, "shared " + vote + " 0, nothing " + vote + ", chance " + vote + " 9, over " + vote + " 0 29");
            tell(x, text, "broken " + vote + " 0 29 " + CERTAIN / 2 + ", matters " + vote + " 0 9, most " + vote + " 29");
        }
        String plan = "plan 0 7 20 90 " + 20 * CERTAIN;
        tell(x, text, plan + " 0, " + plan + " 1");
        for (int part = 0; part < parts; part++) {
            tell(x, text, "cost " + part + " 3, noTests " + part + " 10, noTests " + part + " 0");
        }
        tell(x, text, "part 1 1 1, test 0 5, bypass 0 3 3, group 1 3, vote 2 2 0 1 0 0, chance 0 3, nothing 0");
        return text.toString();
    }

    private static void tell(Run x, StringBuilder text, String calls) {
        for (Call call : Call.all(calls)) {
            text.append(call).append(" = ").append(x.answer(call)).append("; ");
        }
    }
}
