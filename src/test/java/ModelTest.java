/** Made-up runs of 512 calls, the same at every start, each answer against SlowLoops. */
public final class ModelTest {
    private static final int RUNS = 240;
    private static final int CALLS = 512;
    /** Calls that startWide makes: they count, too. */
    private static final int WIDE_CALLS = 16;
    private static final long CERTAIN = 281474976710656L;
    private static final int[] WILD = {-1, Integer.MIN_VALUE, Integer.MAX_VALUE, 1000, 64, 65, 12, 24, 31, 32, 200, 4096, -13};

    private final Check check = new Check("ModelTest");
    private long state;
    private SaveLoops fast;
    private SlowLoops slow;
    private int mostParts;

    public static void main(String[] args) {
        ModelTest test = new ModelTest();
        for (int run = 0; run < RUNS && !test.check.hasFailedOften(); run++) {
            test.oneRun(run);
        }
        test.check.end();
    }

    private void oneRun(int run) {
        state = 77003L * run + 5;
        fast = new SaveLoops();
        slow = new SlowLoops();
        // Runs with few parts are those in which plans and chances are seldom refused.
        mostParts = 1 + run % 12;
        if (run % 4 == 3 && mostParts >= 8) {
            startWide("run " + run + ": ");
        }
        for (int call = WIDE_CALLS; call < CALLS && !check.hasFailedOften(); call++) {
            int kind = below(100);
            if (kind < 45 || call < WIDE_CALLS + 20) {
                change("run " + run + ", call " + call + ": ");
            } else {
                ask("run " + run + ", call " + call + ": ");
            }
        }
    }

    /** Votes over 8 parts are seldom met by chance, so some runs begin with two halves to build on. */
    private void startWide(String where) {
        for (int i = 0; i < 8; i++) {
            int b = below(40), a = below(2), z = below(65);
            check.due(where + "part", slow.part(b, a, z), fast.part(b, a, z));
        }
        for (int i = 0; i < 8; i++) {
            int k = 1 + below(i < 2 ? 4 : 2);
            int n = i < 2 ? 4 : 2 + below(2);
            int i0 = i < 2 ? 4 * i : 12, i1 = i < 2 ? 4 * i + 1 : 13;
            int i2 = i < 2 ? 4 * i + 2 : below(8), i3 = i < 2 ? 4 * i + 3 : 0;
            check.due(where + "vote", slow.vote(k, n, i0, i1, i2, i3), fast.vote(k, n, i0, i1, i2, i3));
        }
    }

    private int below(int bound) {
        state = state * 6364136223846793005L + 1442695040888963407L;
        return (int) ((state >>> 33) % bound);
    }

    /** One of 0 to bound - 1, and now and then a number that is far off. */
    private int number(int bound) {
        return below(40) == 0 ? WILD[below(WILD.length)] : below(bound);
    }

    private int partNumber() {
        return number(mostParts + (below(20) == 0 ? 1 : 0));
    }

    private int input() {
        return below(3) == 0 ? number(24) : partNumber();
    }

    private int day() {
        int kind = below(6);
        return kind == 0 ? number(1000) : kind == 1 ? 999 - below(3) : number(120);
    }

    private int bits() {
        int bits = 0;
        for (int i = 0; i < 2 + below(3); i++) {
            bits |= 1 << below(mostParts);
        }
        return below(20) == 0 ? number(5000) : bits;
    }

    private long limit(long most) {
        int kind = below(10);
        if (kind == 0) {
            return most;
        }
        if (kind == 1) {
            return below(2) == 0 ? -1 : most + 1;
        }
        return most / 1000 * below(1001);
    }

    private void change(String where) {
        int p = partNumber();
        int x = day();
        int y = below(10) == 0 ? day() : x + below(30);
        switch (below(12)) {
            case 0: case 1: {
                if (slow.count(0) >= mostParts && mostParts < 12) return;
                int b = number(12), a = number(below(3) == 0 ? 65 : 4), z = number(65);
                check.due(where + "part " + b + " " + a + " " + z, slow.part(b, a, z), fast.part(b, a, z));
                return;
            }
            case 2: case 3:
                check.due(where + "test " + p + " " + x, slow.test(p, x), fast.test(p, x));
                return;
            case 4:
                check.due(where + "noTests " + p + " " + x, slow.noTests(p, x), fast.noTests(p, x));
                return;
            case 5:
                if (below(4) != 0) return;
                check.due(where + "bypass " + p + " " + x + " " + y, slow.bypass(p, x, y), fast.bypass(p, x, y));
                return;
            case 6: {
                if (below(8) != 0) return;
                int c = number(20), bits = bits();
                check.due(where + "group " + c + " " + bits, slow.group(c, bits), fast.group(c, bits));
                return;
            }
            case 7: case 8: {
                if (below(3) != 0) return;
                int n = below(20) == 0 ? number(7) : 1 + below(4);
                int k = below(10) == 0 ? number(6) : 1 + below(Math.max(1, n));
                int i0 = input(), i1 = input(), i2 = input(), i3 = input();
                check.due(where + "vote " + k + " " + n + " " + i0 + " " + i1 + " " + i2 + " " + i3,
                    slow.vote(k, n, i0, i1, i2, i3), fast.vote(k, n, i0, i1, i2, i3));
                return;
            }
            default: {
                int c = below(4) == 0 ? number(1003) : number(4);
                check.due(where + "cost " + p + " " + c, slow.cost(p, c), fast.cost(p, c));
            }
        }
    }

    private void ask(String where) {
        int p = partNumber();
        int v = number(Math.max(1, slow.count(4)) + (below(20) == 0 ? 1 : 0));
        int w = number(12);
        int x = day();
        int y = below(10) == 0 ? day() : x + below(40);
        switch (below(13)) {
            case 0:
                check.due(where + "share " + p + " " + x, slow.share(p, x), fast.share(p, x));
                return;
            case 1:
                y = day();
                check.due(where + "bypassed " + p + " " + x + " " + y, slow.bypassed(p, x, y), fast.bypassed(p, x, y));
                return;
            case 2: {
                int what = number(4);
                check.due(where + "below " + v + " " + what, slow.below(v, what), fast.below(v, what));
                return;
            }
            case 3:
                check.due(where + "shared " + v + " " + w, slow.shared(v, w), fast.shared(v, w));
                return;
            case 4: case 5:
                check.due(where + "chance " + v + " " + x, slow.chance(v, x), fast.chance(v, x));
                return;
            case 6:
                check.due(where + "over " + v + " " + x + " " + y, slow.over(v, x, y), fast.over(v, x, y));
                return;
            case 7: {
                long limit = limit(CERTAIN);
                check.due(where + "broken " + v + " " + x + " " + y + " " + limit,
                    slow.broken(v, x, y, limit), fast.broken(v, x, y, limit));
                return;
            }
            case 8:
                check.due(where + "nothing " + v, slow.nothing(v), fast.nothing(v));
                return;
            case 9:
                check.due(where + "matters " + v + " " + p + " " + x, slow.matters(v, p, x), fast.matters(v, p, x));
                return;
            case 10:
                check.due(where + "most " + v + " " + x, slow.most(v, x), fast.most(v, x));
                return;
            case 11:
                askPlan(where, v);
                return;
            default: {
                int what = number(6);
                check.due(where + "count " + what, slow.count(what), fast.count(what));
            }
        }
    }

    private void askPlan(String where, int vote) {
        int most = below(3) == 0 ? 8 : 100;
        int p = 1 + number(most), q = 1 + number(most), r = 1 + number(most);
        long limit = limit(100 * CERTAIN);
        int what = number(2);
        check.due(where + "plan " + vote + " " + p + " " + q + " " + r + " " + limit + " " + what,
            slow.plan(vote, p, q, r, limit, what), fast.plan(vote, p, q, r, limit, what));
    }
}
