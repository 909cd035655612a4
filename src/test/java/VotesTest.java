/** Part 2 of "Terms", with promises 8 and 10 to 17: each sentence at its bounds. */
public final class VotesTest {
    private static final int BAD = Edges.BAD, NO = Edges.NO, FULL = Edges.FULL, NONE = Edges.NONE;
    private static final long CERTAIN = Edges.CERTAIN, SHARE = Edges.SHARE;
    private static final int LEAST = Integer.MIN_VALUE, GREATEST = Integer.MAX_VALUE;
    /** VOTES 0 and 1 have 4 PARTS each, VOTE 2 has these 8, VOTE 3 has 9, VOTE 4 all 12. */
    private static final String WIDE_VOTES = ", vote 1 4 0 1 2 3, vote 1 4 4 5 6 7, vote 1 2 12 13 0 0, "
        + "vote 1 2 14 8 0 0, vote 1 4 15 9 10 11";
    private static final String WIDE = Edges.times(12, "part 1 0 1") + WIDE_VOTES;

    private static Edges edges;

    public static void main(String[] args) {
        Check check = new Check("VotesTest");
        edges = new Edges(check);
        votesAsTheyCome();
        voteNumbers();
        inputsAreOneToFour();
        kIsOneToN();
        eachInputIsThere();
        othersAreNotLookedAt();
        inputsOfAllThere();
        twiceTheSame();
        actsIfKDo();
        actsThroughVotes();
        belowWhat();
        groupsWithSuchAPart();
        eventsAreEight();
        eventsOfGroupsAreEight();
        badBeforeNo();
        sharedEvents();
        toldBy64ToThe8th();
        chanceOnADay();
        overDays();
        overIsTheSum();
        brokenFirst();
        brokenLimits();
        nothingOfParts();
        nothingIsEight();
        mattersByHowMuch();
        mattersNotBelow();
        mostOfSeveral();
        check.end();
    }

    private static void votesAsTheyCome() {
        edges.sentence("VOTES 0 to 11 as they come");
        Run x = edges.run("part 1 0 0, part 2 0 0");
        for (int i = 0; i < 12; i++) {
            x.due(i, "count 4");
            x.due(BAD, "vote 1 1 2 0 0 0");
            x.due(BAD, "below " + i + " 0");
            x.due(i, "vote 1 1 " + i % 2 + " 0 0 0");
            x.due(1 + i % 2, "below " + i + " 0");
        }
        edges.sentence("vote: BAD: k not 1 to n, an input is none; FULL");
        x.due(FULL, "vote 1 1 0 0 0 0");
        x.due(FULL, "vote 4 4 0 1 12 23");
        x.due(BAD, "vote 0 1 0 0 0 0");
        x.due(BAD, "vote 2 1 0 0 0 0");
        x.due(BAD, "vote 1 0 0 0 0 0");
        x.due(BAD, "vote 1 5 0 0 0 0");
        x.due(BAD, "vote 1 1 2 0 0 0");
        x.due(BAD, "vote 1 1 24 0 0 0");
        x.due(BAD, "vote 1 4 0 1 12 24");
        x.due(12, "count 4");
        x.due(BAD, "below 12 0");
    }

    private static void voteNumbers() {
        edges.sentence("VOTES 0 to 11 as they come");
        for (int votes : new int[] {1, 2, 12}) {
            int last = votes - 1;
            String setup = "part 3 1 5, " + Edges.times(votes, "vote 1 1 0 0 0 0");
            edges.range(setup, "below ? 0", 0, 1, last, 1);
            edges.range(setup, "shared ? 0", 0, 1, last, 1);
            edges.range(setup, "shared 0 ?", 0, 1, last, 1);
            edges.range(setup, "chance ? 0", 0, 3 * SHARE, last, 3 * SHARE);
            edges.range(setup, "over ? 0 0", 0, 3 * SHARE, last, 3 * SHARE);
            edges.range(setup, "broken ? 0 0 0", 0, 0, last, 0);
            edges.range(setup, "nothing ?", 0, 5 * SHARE, last, 5 * SHARE);
            edges.range(setup, "matters ? 0 0", 0, CERTAIN, last, CERTAIN);
            edges.range(setup, "most ? 0", 0, 0, last, 0);
            edges.range(setup, "plan ? 1 1 1 " + 100 * CERTAIN + " 0", 0, 100, last, 100);
        }
        // A PART that is there is no VOTE, nor is an input's number one.
        String parts = Edges.times(12, "part 1 0 0");
        for (String call : new String[] {"below ? 0", "chance ? 0", "nothing ?", "most ? 0", "plan ? 1 1 1 0 0"}) {
            edges.never(parts, call);
            edges.due(BAD, parts + ", vote 1 1 0 0 0 0", Edges.with(call, 12));
        }
    }

    private static void inputsAreOneToFour() {
        edges.sentence("k of inputs (1 to 4 of them");
        edges.range("part 0 0 0", "vote 1 ? 0 0 0 0", 1, 0, 4, 0);
        for (int n : new int[] {0, -1, 5, 6, LEAST, GREATEST}) {
            for (int k : new int[] {n, 0, 1, 4, 5, LEAST, GREATEST}) {
                edges.due(BAD, "part 0 0 0", "vote " + k + " " + n + " 0 0 0 0");
            }
        }
        Run x = edges.run("part 1 0 0, part 2 0 0, part 4 0 0, part 8 0 0");
        for (int n = 1; n <= 4; n++) {
            x.due(n - 1, "vote 1 " + n + " 0 1 2 3");
            x.due((1 << n) - 1, "below " + (n - 1) + " 0");
        }
    }

    private static void kIsOneToN() {
        edges.sentence("vote: BAD: k not 1 to n");
        for (int n = 1; n <= 4; n++) {
            edges.range("part 0 0 0", "vote ? " + n + " 0 0 0 0", 1, 0, n, 0);
            edges.range(Edges.times(4, "part 0 0 0"), "vote ? " + n + " 3 2 1 0", 1, 0, n, 0);
        }
    }

    /** With 3 PARTS and 2 VOTES inputs are 0 to 2 and 12 to 13. */
    private static void eachInputIsThere() {
        edges.sentence("each a PART 0 to 11, or 12 and the number of a VOTE that is there");
        String setup = "part 0 0 0, part 0 0 0, part 0 0 0, vote 1 1 0 0 0 0, vote 1 1 1 0 0 0";
        int[] there = {0, 1, 2, 12, 13};
        int[] none = {3, 4, 10, 11, 14, 15, 22, 23, 24, 25, -1, -12, -13, LEAST, LEAST + 12, GREATEST,
            GREATEST - 1, 256, 268, 65536};
        for (int n = 1; n <= 4; n++) {
            for (int place = 0; place < n; place++) {
                Run refused = edges.run(setup);
                for (int input : none) {
                    refused.due(BAD, "vote 1 " + n + inputsWith(place, input));
                }
                refused.due(2, "count 4");
                for (int input : there) {
                    edges.due(2, setup, "vote 1 " + n + inputsWith(place, input));
                }
            }
        }
        edges.due(BAD, "", "vote 1 1 0 0 0 0");
        edges.due(BAD, "", "vote 1 1 12 0 0 0");
        edges.due(BAD, "part 0 0 0", "vote 1 1 12 0 0 0");
    }

    private static String inputsWith(int place, int input) {
        StringBuilder text = new StringBuilder();
        for (int i = 0; i < 4; i++) {
            text.append(' ').append(i == place ? input : 0);
        }
        return text.toString();
    }

    private static void othersAreNotLookedAt() {
        edges.sentence("i0 to i3; others are not looked at");
        int[] any = {-1, 5, 11, 12, 23, 24, LEAST, GREATEST};
        for (int n = 1; n < 4; n++) {
            for (int input : any) {
                for (int place = n; place < 4; place++) {
                    Run x = edges.run("part 16 0 8, part 0 0 0");
                    x.due(0, "vote 1 " + n + inputsWith(place, input));
                    x.due(1, "below 0 0");
                    x.due(16 * SHARE, "chance 0 0");
                    x.due(8 * SHARE, "nothing 0");
                }
            }
        }
        // An input that is there, but is not one of n, is not below and has no vote.
        Run x = edges.run("part 16 0 0, part 0 0 0, vote 1 1 0 1 1 1, vote 2 2 0 0 1 1, vote 3 3 0 0 0 1");
        for (int vote = 0; vote < 3; vote++) {
            x.due(1, "below " + vote + " 0");
            x.due(16 * SHARE, "chance " + vote + " 0");
        }
    }

    private static void inputsOfAllThere() {
        edges.sentence("each a PART 0 to 11, or 12 and the number of a VOTE that is there");
        String parts = Edges.each(12, "part ? 0 ?");
        edges.range(parts, "vote 1 1 ? 0 0 0", 0, 0, 11, 0);
        edges.range(parts + ", vote 1 1 0 0 0 0", "vote 1 1 ? 0 0 0", 0, 1, 12, 1);
        String eleven = parts + ", " + Edges.each(11, "vote 1 1 ? 0 0 0");
        edges.range(eleven, "vote 1 1 ? 0 0 0", 0, 11, 22, 11);
        edges.range(eleven + ", vote 1 1 11 0 0 0", "vote 1 1 ? 0 0 0", 0, FULL, 23, FULL);
        Run x = edges.run(eleven);
        x.due(11, "vote 1 3 11 12 22 0");
        x.due(1 | 1 << 10 | 1 << 11, "below 11 0");
        Run last = edges.run(parts + ", vote 1 1 11 0 0 0");
        last.due(2048, "below 0 0");
        last.due(11 * SHARE, "chance 0 0");
        last.due(11 * SHARE, "nothing 0");
        last.due(CERTAIN, "matters 0 11 0");
        last.due(0, "matters 0 10 0");
        last.due(11, "most 0 0");
    }

    private static void twiceTheSame() {
        edges.sentence("twice the same may be");
        Run x = edges.run("part 16 0 16, part 32 0 32, vote 2 2 0 0 0 0, vote 1 2 0 0 0 0, vote 2 3 0 0 1 0, "
            + "vote 3 3 0 0 1 0, "
            + "vote 4 4 1 1 1 1, vote 2 4 12 12 1 1, vote 3 4 14 14 0 1");
        long[] failing = {16, 16, 16, 40, 32, 8, 16};
        long[] acting = {16, 16, 16, 8, 32, 40, 16};
        int[] events = {1, 1, 2, 2, 1, 2, 2};
        for (int vote = 0; vote < 7; vote++) {
            x.due(failing[vote] * SHARE, "chance " + vote + " 0");
            x.due(acting[vote] * SHARE, "nothing " + vote);
            x.due(events[vote], "below " + vote + " 2");
        }
    }

    /** Every k of n with every set of PARTS that surely fail. */
    private static void actsIfKDo() {
        edges.sentence("it ACTS, if k inputs at least do. A PART ACTS, if it does not fail.");
        for (int failing = 0; failing < 16; failing++) {
            StringBuilder setup = new StringBuilder();
            for (int part = 0; part < 4; part++) {
                int share = (failing >> part & 1) * 64;
                setup.append(part == 0 ? "" : ", ").append("part " + share + " 0 " + (64 - share));
            }
            Run x = edges.run(setup.toString());
            int vote = 0;
            for (int n = 1; n <= 4; n++) {
                int acting = n - Integer.bitCount(failing & (1 << n) - 1);
                for (int k = 1; k <= n; k++) {
                    x.due(vote, "vote " + k + " " + n + " 0 1 2 3");
                    x.due(acting >= k ? 0 : CERTAIN, "chance " + vote + " 0");
                    x.due(acting >= k ? CERTAIN : 0, "nothing " + vote);
                    vote++;
                }
            }
        }
    }

    private static void actsThroughVotes() {
        edges.sentence("it ACTS, if k inputs at least do");
        Run x = edges.run("part 32 0 32, part 32 0 32, part 32 0 32, part 16 0 16, vote 2 3 0 1 2 0, vote 1 2 12 3 0 0, "
            + "vote 2 2 12 3 0 0, vote 1 1 13 0 0 0, vote 2 3 13 14 3 0");
        long[] failing = {32, 8, 40, 8, 16};
        long[] acting = {32, 40, 8, 40, 16};
        for (int vote = 0; vote < 5; vote++) {
            x.due(failing[vote] * SHARE, "chance " + vote + " 0");
            x.due(acting[vote] * SHARE, "nothing " + vote);
        }
        // Twelve VOTES, each with the one before it four times, and each with a PART more.
        String chain = Edges.times(8, "part 32 0 0") + ", vote 1 1 0 0 0 0";
        for (int i = 1; i < 12; i++) {
            chain += ", vote 3 4 " + (11 + i) + " " + (11 + i) + " " + (11 + i) + " " + Math.min(i, 7);
        }
        Run deep = edges.run(chain);
        deep.due(255, "below 11 0");
        deep.due(32 * SHARE, "chance 11 0");
        deep.due(200 * 32 * SHARE, "over 11 0 199");
    }

    private static void belowWhat() {
        edges.sentence("PARTS below a VOTE (what = 0), GROUPS (1), as bits; how many EVENTS (2). BAD.");
        String setup = "part 1 0 0, part 1 0 0, part 1 0 0, group 1 6, group 0 3, vote 1 2 0 1 0 0, vote 1 1 2 0 0 0";
        edges.range(setup, "below 0 ?", 0, 3, 2, 4);
        edges.due(3, setup, "below 0 1");
        edges.due(4, setup, "below 1 0");
        edges.due(1, setup, "below 1 1");
        edges.due(2, setup, "below 1 2");
        edges.due(BAD, setup, "below 2 3");
        edges.due(0, "part 1 0 0, vote 1 1 0 0 0 0", "below 0 1");
        edges.due(1, "part 1 0 0, vote 1 1 0 0 0 0", "below 0 2");
        Run all = edges.run(WIDE + ", " + Edges.times(4, "group 1 4095"));
        all.due(4095, "below 4 0");
        all.due(15, "below 4 1");
        all.due(16, "below 4 2");
        all.due(13, "below 3 2");
    }

    private static void groupsWithSuchAPart() {
        edges.sentence("EVENTS of a VOTE are all PARTS below it, and GROUPS with such a PART");
        Run x = edges.run(Edges.times(12, "part 1 0 0") + ", vote 1 1 0 0 0 0, vote 1 1 11 0 0 0, vote 1 2 12 5 0 0, "
            + "group 1 3, group 1 3072, group 1 2049, group 0 96");
        int[] groups = {5, 6, 13};
        int[] events = {3, 3, 5};
        for (int vote = 0; vote < 3; vote++) {
            x.due(groups[vote], "below " + vote + " 1");
            x.due(events[vote], "below " + vote + " 2");
        }
        // A VOTE that is there already has a GROUP that comes later.
        Run later = edges.run("part 1 0 0, part 1 0 0, vote 1 1 0 0 0 0");
        later.due(0, "below 0 1");
        later.does("group 64 3");
        later.due(1, "below 0 1");
        later.due(CERTAIN, "chance 0 0");
    }

    private static void dueOfChances(long wanted, Run x, int vote) {
        String[] calls = {"chance " + vote + " 0", "over " + vote + " 0 1", "broken " + vote + " 0 1 0",
            "matters " + vote + " 0 0", "most " + vote + " 0"};
        for (String call : calls) {
            if (wanted == NO) {
                x.due(NO, call);
            } else {
                x.does(call);
            }
        }
    }

    private static void eventsAreEight() {
        edges.sentence("8 at most (else NO, where its chance is asked)");
        Run x = edges.run(WIDE);
        dueOfChances(0, x, 2);
        dueOfChances(NO, x, 3);
        dueOfChances(NO, x, 4);
        x.due(8, "below 2 2");
        x.due(9, "below 3 2");
        x.due(12, "below 4 2");
        x.due(511, "below 3 0");
        x.due(255, "shared 3 2");
        x.due(4095, "shared 4 4");
        x.due(1, "chance 2 0");
        x.due(200, "over 2 0 199");
        x.due(0, "broken 2 0 199 0");
        x.due(NONE, "broken 2 0 199 1");
        x.due(64, "matters 2 7 0");
        x.due(0, "matters 2 8 0");
        x.due(NO, "matters 3 11 0");
        // A GROUP that strikes none of the 8 is no EVENT of theirs; one that strikes the last of them is.
        x.does("group 0 3840");
        dueOfChances(0, x, 2);
        x.does("group 0 384");
        dueOfChances(NO, x, 2);
        dueOfChances(0, x, 0);
        dueOfChances(0, x, 1);
    }

    private static void eventsOfGroupsAreEight() {
        edges.sentence("8 at most (else NO, where its chance is asked)");
        String votes = ", vote 1 4 0 1 2 3, vote 1 2 12 4 0 0, vote 1 2 13 5 0 0, vote 1 2 14 6 0 0, "
            + "vote 1 2 15 7 0 0, vote 1 2 16 8 0 0";
        Run x = edges.run(Edges.times(9, "part 1 0 0") + votes);
        for (int groups = 0; groups <= 4; groups++) {
            for (int vote = 0; vote < 6; vote++) {
                int events = 4 + vote + groups;
                x.due(events, "below " + vote + " 2");
                dueOfChances(events <= 8 ? 0 : NO, x, vote);
            }
            if (groups < 4) {
                x.does("group " + 16 * groups + " 3");
            }
        }
    }

    private static void badBeforeNo() {
        edges.sentence("Of several the first");
        Run x = edges.run(WIDE);
        String[] calls = {
            "chance 3 1000", "chance 3 -1", "chance 5 0", "over 3 0 200", "over 3 1 0", "over 3 -1 0", "over 3 999 1000",
            "broken 3 0 200 0", "broken 3 1 0 0", "broken 3 0 0 -1", "broken 3 0 0 " + (CERTAIN + 1), "broken 5 0 0 0",
            "matters 3 12 0", "matters 3 -1 0", "matters 3 0 1000", "matters 5 0 0", "most 3 1000", "most 3 -1",
            "plan 3 0 1 1 0 0", "plan 3 1 101 1 0 0", "plan 3 1 1 0 0 0", "plan 3 1 1 1 -1 0", "plan 3 1 1 1 0 2",
            "plan 3 1 1 1 " + (100 * CERTAIN + 1) + " 0", "plan 5 1 1 1 0 0",
        };
        for (String call : calls) {
            x.due(BAD, call);
        }
    }

    private static void sharedEvents() {
        edges.sentence("PARTS and GROUPS (bit 12 and its number) that are EVENTS of both VOTES. BAD.");
        Run x = edges.run(Edges.times(12, "part 1 0 0") + ", vote 1 2 0 1 0 0, vote 1 2 1 11 0 0, "
            + "vote 1 2 4 5 0 0, vote 1 3 12 13 14 0, "
            + "vote 1 1 10 0 0 0");
        x.due(2, "shared 0 1");
        x.due(0, "shared 0 2");
        x.does("group 0 3, group 0 2049, group 0 48, group 64 17");
        int[][] rows = {
            {0, 0, 3 | 11 << 12}, {0, 1, 2 | 3 << 12}, {1, 0, 2 | 3 << 12}, {0, 2, 8 << 12}, {2, 0, 8 << 12}, {1, 2, 0},
            {1, 1, 2050 | 3 << 12}, {2, 2, 48 | 12 << 12}, {0, 3, 3 | 11 << 12}, {3, 3, 2099 | 15 << 12},
            {4, 3, 0}, {4, 4, 1024},
        };
        for (int[] row : rows) {
            x.due(row[2], "shared " + row[0] + " " + row[1]);
        }
        x.due(BAD, "shared 5 0");
        x.due(BAD, "shared 0 5");
        x.due(BAD, "shared 5 5");
        x.due(BAD, "shared -1 -1");
        Run all = edges.run(WIDE + ", " + Edges.times(4, "group 1 4095"));
        all.due(65535, "shared 4 4");
        all.due(15 << 12, "shared 0 1");
        all.due(15 << 12 | 255, "shared 2 3");
    }

    private static void toldBy64ToThe8th() {
        edges.sentence("by 64 to as many as there are EVENTS; told as it would be by 64 to the 8th (256 to the 6th)");
        StringBuilder chain = new StringBuilder("vote 1 1 0 0 0 0");
        for (int i = 1; i < 8; i++) {
            chain.append(", vote 1 2 ").append(11 + i).append(' ').append(i).append(" 0 0");
        }
        // All must fail; VOTE i has i + 1 EVENTS.
        Run least = edges.run(Edges.times(8, "part 1 0 1") + ", " + chain);
        Run most = edges.run(Edges.times(8, "part 63 0 63") + ", " + chain);
        long all = 1;
        for (int vote = 0; vote < 8; vote++) {
            all *= 63;
            int rest = 6 * (7 - vote);
            least.due(1L << rest, "chance " + vote + " 999");
            least.due(CERTAIN - (all << rest), "nothing " + vote);
            most.due(all << rest, "chance " + vote + " 999");
            most.due(CERTAIN - (1L << rest), "nothing " + vote);
        }
        Run sure = edges.run(Edges.times(8, "part 64 0 64") + ", " + chain);
        sure.due(CERTAIN, "chance 7 0");
        sure.due(CERTAIN, "nothing 7");
        Run never = edges.run(Edges.times(8, "part 0 0 0") + ", " + chain);
        never.due(0, "chance 7 999");
        never.due(0, "nothing 7");
        Run groups = edges.run(Edges.times(4, "part 0 0 0") + ", vote 1 4 0 1 2 3, " + Edges.times(4, "group 1 15"));
        groups.due(CERTAIN - (63L * 63 * 63 * 63 << 24), "chance 0 0");
        Run causes = edges.run(Edges.times(4, "part 1 0 0") + ", vote 4 4 0 1 2 3, " + Edges.times(4, "group 1 3"));
        causes.due(CERTAIN - 63L * 63 * 63 * 63 * 63 * 63 * 63 * 63, "chance 0 0");
    }

    private static void chanceOnADay() {
        edges.sentence("ITS CHANCE on a DAY");
        Run x = edges.run("part 8 1 0, part 16 0 0, part 0 2 0, vote 2 3 0 1 2 0, test 0 10, test 2 12, bypass 1 20 20");
        // Sums of products by 64 to the 3rd: two that fail, or all three.
        int[][] shares = {{0, 8, 16, 0}, {9, 17, 16, 18}, {10, 8, 16, 20}, {12, 10, 16, 0}, {19, 17, 16, 14},
            {20, 18, 64, 16}, {21, 19, 16, 18}};
        for (int[] row : shares) {
            long f = row[1], g = row[2], h = row[3];
            long sum = f * g * (64 - h) + f * (64 - g) * h + (64 - f) * g * h + f * g * h;
            x.due(sum << 30, "chance 0 " + row[0]);
        }
    }

    private static void overDays() {
        edges.sentence("OVER DAYS x to y (both with; at most 200)");
        String loop = "part 0 1 0, vote 1 1 0 0 0 0";
        edges.range(loop, "over 0 ? 999", 800, 200 * CERTAIN, 999, CERTAIN);
        edges.range(loop, "over 0 0 ?", 0, 0, 199, (63 * 32 + 64 * 136) * SHARE);
        edges.range(loop, "over 0 7 ?", 7, 7 * SHARE, 206, (63 * 32 - 21 + 64 * 143) * SHARE);
        edges.range(loop, "over 0 ? 206", 7, (63 * 32 - 21 + 64 * 143) * SHARE, 206, CERTAIN);
        edges.due(15 * SHARE, loop, "over 0 7 8");
        edges.due(BAD, loop, "over 0 0 999");
        edges.due(BAD, loop, "over 0 8 7");
        edges.sentence("The first DAY of x to y (at most 200)");
        edges.range(loop, "broken 0 ? 999 0", 800, 800, 999, 999);
        edges.range(loop, "broken 0 0 ? 0", 0, NONE, 199, 1);
        edges.range(loop, "broken 0 7 ? 0", 7, 7, 206, 7);
        edges.due(BAD, loop, "broken 0 0 999 0");
        edges.due(BAD, loop, "broken 0 8 7 0");
    }

    private static void overIsTheSum() {
        edges.sentence("the sum of CHANCES");
        Run x = edges.run("part 3 1 0, part 5 2 0, part 1 1 0, vote 2 3 0 1 2 0, group 7 5, test 0 15, test 1 33, "
            + "bypass 2 40 44");
        long sum = 0;
        for (int day = 0; day < 90; day++) {
            sum += x.answer("chance 0 " + day);
            x.due(sum, "over 0 0 " + day);
        }
        x.due(sum - x.answer("over 0 0 29"), "over 0 30 89");
    }

    private static void brokenFirst() {
        edges.sentence("The first DAY of x to y on which ITS CHANCE is above a limit");
        Run x = edges.run("part 0 1 0, vote 1 1 0 0 0 0, test 0 20, bypass 0 40 41");
        long ten = 10 * SHARE;
        x.due(11, "broken 0 0 199 " + ten);
        x.due(10, "broken 0 0 199 " + (ten - 1));
        x.due(11, "broken 0 0 199 " + (ten + 1));
        x.due(11, "broken 0 0 11 " + ten);
        x.due(NONE, "broken 0 0 10 " + ten);
        x.due(11, "broken 0 11 11 " + ten);
        x.due(15, "broken 0 15 199 " + ten);
        x.due(31, "broken 0 20 199 " + ten);
        x.due(NONE, "broken 0 20 30 " + ten);
        x.due(40, "broken 0 0 199 " + 60 * SHARE);
        x.due(41, "broken 0 41 199 " + (CERTAIN - 1));
        x.due(84, "broken 0 42 199 " + (CERTAIN - 1));
        x.due(NONE, "broken 0 0 199 " + CERTAIN);
        x.due(21, "broken 0 20 30 0");
        x.due(NONE, "broken 0 20 20 0");
        x.due(999, "broken 0 999 999 0");
        edges.due(0, "part 1 0 0, vote 1 1 0 0 0 0", "broken 0 0 0 0");
        edges.due(NONE, "part 0 0 0, vote 1 1 0 0 0 0", "broken 0 800 999 0");
    }

    private static void brokenLimits() {
        edges.sentence("above a limit (0 to 281474976710656)");
        edges.rangeOfLimits("part 64 0 0, vote 1 1 0 0 0 0", "broken 0 3 9 ?", 0, 3, CERTAIN, NONE);
        edges.due(3, "part 64 0 0, vote 1 1 0 0 0 0", "broken 0 3 9 " + (CERTAIN - 1));
        edges.due(3, "part 64 0 0, vote 1 1 0 0 0 0", "broken 0 3 9 " + (1L << 32));
        // With 8 EVENTS the least chance is 1.
        edges.due(0, WIDE, "broken 2 0 9 0");
        edges.due(NONE, WIDE, "broken 2 0 9 1");
    }

    private static void nothingOfParts() {
        edges.sentence("FOR NOTHING: likewise with z of PARTS (GROUPS are none there, EVENTS are PARTS)");
        String setup = "part 0 0 16, part 64 64 32, part 7 7 64, vote 1 2 0 1 0 0, vote 2 2 0 1 0 0, "
            + "vote 2 3 0 1 2 0, vote 1 1 0 0 0 0";
        long[] acting = {40, 8, 40, 16};
        Run x = edges.run(setup);
        for (int vote = 0; vote < 4; vote++) {
            x.due(acting[vote] * SHARE, "nothing " + vote);
        }
        x.does("group 64 7, group 32 3, bypass 0 0 999, test 1 5, cost 0 7");
        for (int vote = 0; vote < 4; vote++) {
            x.due(acting[vote] * SHARE, "nothing " + vote);
        }
        x.due(BAD, "nothing 4");
        x.due(BAD, "nothing -1");
    }

    private static void nothingIsEight() {
        edges.sentence("EVENTS are PARTS: 8 at most");
        String four = ", " + Edges.times(4, "group 64 3");
        for (String groups : new String[] {"", four}) {
            Run x = edges.run(Edges.times(12, "part 1 0 32") + WIDE_VOTES + groups);
            x.due(CERTAIN / 256 * 255, "nothing 2");
            x.due(CERTAIN / 16 * 15, "nothing 0");
            x.due(NO, "nothing 3");
            x.due(NO, "nothing 4");
            x.due(BAD, "nothing 5");
        }
        // 8 PARTS and 4 GROUPS: its chance is not told, but FOR NOTHING is.
        Run x = edges.run(WIDE + four);
        x.due(NO, "chance 2 0");
        x.due(CERTAIN - 63L * 63 * 63 * 63 * 63 * 63 * 63 * 63, "nothing 2");
    }

    private static void mattersByHowMuch() {
        edges.sentence("by how much ITS CHANCE is greater if that PART's SHARE is 64 than if it is 0 (others as they are)");
        Run x = edges.run("part 16 0 0, part 0 1 0, part 64 0 0, vote 1 2 0 1 0 0, vote 2 2 0 1 0 0, "
            + "vote 2 3 0 1 2 0, vote 1 1 0 0 0 0, "
            + "vote 1 2 0 0 0 0, vote 2 3 0 0 1 0, test 1 40");
        int[][] rows = {
            {0, 0, 0, 0}, {0, 0, 1, 1}, {0, 0, 39, 39}, {0, 0, 40, 0}, {0, 0, 999, 64}, {0, 1, 0, 16}, {0, 1, 999, 16},
            {1, 0, 0, 64}, {1, 0, 10, 54}, {1, 1, 5, 48}, {2, 0, 8, 56}, {2, 1, 8, 48}, {3, 0, 0, 64}, {4, 0, 7, 64},
            {5, 0, 3, 64}, {5, 1, 3, 0},
        };
        for (int[] row : rows) {
            x.due(row[3] * SHARE, "matters " + row[0] + " " + row[1] + " " + row[2]);
        }
        x.due(24 * SHARE, "matters 2 2 16");
        x.does("bypass 0 5 5");
        x.due(5 * SHARE, "matters 0 0 5");
        x.due(CERTAIN, "matters 0 1 5");
        x.due(0, "matters 1 1 5");
        x.due(16, "share 0 4");
        x.due(64, "share 0 5");
        // A cause strikes a PART whose own SHARE is 0, too.
        x.does("group 16 3");
        x.due(6 * SHARE * 48 / 64, "matters 0 0 6");
        x.due(CERTAIN / 64 * 48, "matters 3 0 6");
        x.does("group 64 3");
        x.due(0, "matters 0 0 6");
        x.due(0, "matters 3 0 6");
    }

    private static void mattersNotBelow() {
        edges.sentence("By how much a PART MATTERS (0: it is not below). BAD; NO.");
        Run x = edges.run("part 1 0 0, part 1 0 0, part 1 0 0, vote 1 1 1 0 0 0, vote 1 2 12 2 0 0, group 9 3");
        x.due(0, "matters 0 0 0");
        x.due(0, "matters 0 2 999");
        x.due(0, "matters 1 0 0");
        x.due(SHARE * 55 / 64, "matters 1 1 0");
        x.due(BAD, "matters 0 3 0");
        x.due(BAD, "matters 0 -1 0");
        x.due(BAD, "matters 0 0 1000");
        x.due(BAD, "matters 2 0 0");
    }

    private static void mostOfSeveral() {
        edges.sentence("The PART below that MATTERS most (of several the lowest)");
        Run same = edges.run(Edges.times(12, "part 8 0 0") + ", vote 2 4 11 9 7 5, vote 1 2 12 3 0 0, "
            + "vote 4 4 10 6 10 6, vote 1 1 11 0 0 0");
        same.due(5, "most 0 0");
        same.due(3, "most 1 0");
        same.due(6, "most 2 999");
        same.due(11, "most 3 0");
        Run x = edges.run("part 40 0 0, part 16 0 0, part 32 1 0, part 0 0 0, vote 1 2 1 2 0 0, vote 2 2 1 2 0 0, "
            + "vote 1 3 0 1 2 0, "
            + "vote 1 3 1 2 3 0, vote 2 3 0 2 2 0");
        x.due(1, "most 0 0");
        x.due(2, "most 1 0");
        x.due(1, "most 2 0");
        x.due(3, "most 3 0");
        x.due(2, "most 4 0");
        x.does("bypass 1 9 9");
        x.due(2, "most 0 9");
        x.due(1, "most 0 8");
        x.due(1, "most 0 10");
        // None matters: the lowest that is below, which is not PART 0.
        x.does("group 64 14");
        x.due(1, "most 0 0");
        x.due(1, "most 1 0");
        x.due(0, "most 4 0");
        x.due(BAD, "most 5 0");
        // Of 8 the last alone matters most, and the first alone, by a single share of its own.
        Run last = edges.run(Edges.times(7, "part 9 0 0") + ", part 8 0 0" + ", vote 1 4 0 1 2 3, "
            + "vote 1 4 4 5 6 7, vote 1 2 12 13 0 0");
        last.due(7, "most 2 0");
        Run first = edges.run("part 8 0 0, " + Edges.times(7, "part 9 0 0") + ", vote 1 4 7 6 5 4, "
            + "vote 1 4 3 2 1 0, vote 1 2 12 13 0 0");
        first.due(0, "most 2 0");
    }
}
