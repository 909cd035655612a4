/** "What it is" and "Terms" up to GROUPS, with promises 1 to 7, 9 and 20: each sentence at its bounds. */
public final class TermsTest {
    private static final int BAD = Edges.BAD, NO = Edges.NO, FULL = Edges.FULL, NONE = Edges.NONE;
    private static final long CERTAIN = Edges.CERTAIN, SHARE = Edges.SHARE;
    /** A PART whose SHARE is the DAY, and a VOTE of it alone. */
    private static final String LOOP = "part 0 1 0, vote 1 1 0 0 0 0";
    private static final String ALL_PARTS = Edges.each(12, "part ? 0 ?");

    private static Edges edges;

    public static void main(String[] args) {
        Check check = new Check("TermsTest");
        edges = new Edges(check);
        newObjectHoldsNothing();
        newObjectRefuses();
        objectsStandAlone();
        daysOfParts();
        daysOfVotes();
        fromXToY();
        callsUpTo512();
        shares();
        sharesOfAPart();
        partsAsTheyCome();
        partNumbers();
        testsRise();
        testsAreTwelve();
        testsOfEachPart();
        noTestsFromADayOn();
        noTestsMakeRoom();
        lesserOf64();
        shareSinceLatestTest();
        shareOfTwelveTests();
        shareUnderBypass();
        bypassesAreTwenty();
        bypassBothWith();
        bypassedDays();
        groupsAsTheyCome();
        groupsOfTwoAtLeast();
        causeOnEachDay();
        causeStrikesAll();
        failByThemselvesOrByIt();
        counts();
        check.end();
    }

    private static void newObjectHoldsNothing() {
        edges.sentence("SaveLoops(): Nothing.");
        Run x = edges.run("");
        for (int what = 0; what < 5; what++) {
            x.due(0, "count " + what);
        }
        x.due(0, "part 0 0 0");
        x.due(1, "test 0 0");
        x.due(1, "bypass 0 0 0");
        x.due(0, "vote 1 1 0 0 0 0");
        x.due(1, "part 0 0 0");
        x.due(0, "group 0 3");
    }

    private static void newObjectRefuses() {
        edges.sentence("there is no such thing");
        String[] calls = {
            "test ? 0", "noTests ? 0", "bypass ? 0 0", "bypassed ? 0 0", "share ? 0", "cost ? 1", "matters 0 ? 0",
            "vote 1 1 ? 0 0 0", "below ? 0", "shared ? 0", "shared 0 ?", "chance ? 0", "over ? 0 0", "broken ? 0 0 0",
            "nothing ?", "matters ? 0 0", "most ? 0", "plan ? 1 1 1 0 0", "group 0 ?",
        };
        for (String call : calls) {
            edges.never("", call);
        }
    }

    private static void objectsStandAlone() {
        edges.sentence("SaveLoops(): Nothing.");
        Run first = edges.run("part 5 0 5, part 5 0 5, vote 1 1 0 0 0 0, group 64 3, test 0 7, bypass 0 9 9");
        Run second = edges.run("part 1 0 1, vote 1 1 0 0 0 0");
        second.due(SHARE, "chance 0 9");
        second.due(SHARE, "nothing 0");
        first.due(CERTAIN, "chance 0 0");
        first.due(5, "share 0 0");
        second.due(0, "count 1");
        second.due(0, "count 3");
        first.due(1, "count 1");
    }

    private static void daysOfParts() {
        edges.sentence("DAYS are 0 to 999");
        String bypassed = LOOP + ", bypass 0 0 999";
        edges.range(LOOP, "test 0 ?", 0, 1, 999, 1);
        edges.range(LOOP + ", test 0 0, test 0 999", "noTests 0 ?", 0, 2, 999, 1);
        edges.range(LOOP, "bypass 0 ? 999", 0, 1, 999, 1);
        edges.range(LOOP, "bypass 0 0 ?", 0, 1, 999, 1);
        edges.range(bypassed, "bypassed 0 ? 999", 0, 1000, 999, 1);
        edges.range(bypassed, "bypassed 0 0 ?", 0, 1, 999, 1000);
        edges.range(LOOP, "share 0 ?", 0, 0, 999, 64);
    }

    private static void daysOfVotes() {
        edges.sentence("DAYS are 0 to 999");
        edges.range(LOOP, "chance 0 ?", 0, 0, 999, CERTAIN);
        edges.range(LOOP, "matters 0 0 ?", 0, CERTAIN, 999, CERTAIN);
        edges.range(LOOP, "most 0 ?", 0, 0, 999, 0);
        edges.range(LOOP, "over 0 999 ?", 999, CERTAIN, 999, CERTAIN);
        edges.range(LOOP, "over 0 ? 0", 0, 0, 0, 0);
        edges.range(LOOP, "broken 0 999 ? 0", 999, 999, 999, 999);
        edges.range(LOOP, "broken 0 ? 0 0", 0, NONE, 0, NONE);
        // A last day that is too great is BAD even if the days were few, and a first one below 0.
        for (String call : new String[] {"over 0 998 1000", "over 0 -1 1", "over 0 1000 1000", "over 0 -1 -1"}) {
            edges.due(BAD, LOOP, call);
            edges.due(BAD, LOOP, call.replace("over", "broken") + " 0");
            edges.due(BAD, LOOP, call.replace("over", "bypass"));
            edges.due(BAD, LOOP, call.replace("over", "bypassed"));
        }
    }

    private static void fromXToY() {
        edges.sentence("DAYS from x to y (both with)");
        edges.range(LOOP, "bypass 0 ? 500", 0, 1, 500, 1);
        edges.range(LOOP, "bypass 0 500 ?", 500, 1, 999, 1);
        String bypassed = LOOP + ", bypass 0 500 500";
        edges.range(bypassed, "bypassed 0 ? 500", 0, 1, 500, 1);
        edges.range(bypassed, "bypassed 0 500 ?", 500, 1, 999, 1);
        edges.range(LOOP, "over 0 ? 500", 301, 200 * CERTAIN, 500, CERTAIN);
        edges.range(LOOP, "over 0 500 ?", 500, CERTAIN, 699, 200 * CERTAIN);
        edges.range(LOOP, "broken 0 ? 500 0", 301, 301, 500, 500);
        edges.range(LOOP, "broken 0 500 ? 0", 500, 500, 699, 500);
    }

    private static void callsUpTo512() {
        edges.sentence("An object is used for at most 512 calls after it has been made");
        Run changed = edges.run("part 1 1 1");
        for (int i = 0; i < 255; i++) {
            changed.due(1, "test 0 5");
            changed.due(1, "noTests 0 0");
        }
        changed.due(64, "share 0 63");
        Run refused = edges.run("");
        for (int i = 0; i < 511; i++) {
            refused.due(BAD, "part 0 0 65");
        }
        refused.due(0, "part 0 0 64");
        String eight = Edges.times(8, "part 1 0 1") + ", vote 1 4 0 1 2 3, vote 1 4 4 5 6 7, vote 1 2 12 13 0 0";
        Run asked = edges.run(eight);
        for (int i = 0; i < 501; i++) {
            asked.due(200, "over 2 800 999");
        }
        Run cost = edges.run("part 0 0 0, cost 0 0");
        for (int i = 1; i <= 510; i++) {
            cost.due(i - 1, "cost 0 " + i);
        }
    }

    private static void shares() {
        edges.sentence("SHARES are sixty-fourths, 0 to 64");
        edges.range("", "part ? 0 0", 0, 0, 64, 0);
        edges.range("", "part 0 ? 0", 0, 0, 64, 0);
        edges.range("", "part 0 0 ?", 0, 0, 64, 0);
        edges.range("", "part ? 64 64", 0, 0, 64, 0);
        edges.range("", "part 64 ? 64", 0, 0, 64, 0);
        edges.range("", "part 64 64 ?", 0, 0, 64, 0);
        edges.range("part 0 0 0, part 0 0 0", "group ? 3", 0, 0, 64, 0);
    }

    private static void sharesOfAPart() {
        edges.sentence("a SHARE b at once, a SHARE a more each DAY, a SHARE z to act for nothing");
        Run x = edges.run("part 1 2 4, part 64 0 0, part 0 64 0, part 0 0 64, part 0 0 0, "
            + Edges.each(5, "vote 1 1 ? 0 0 0"));
        int[] onDay0 = {1, 64, 0, 0, 0};
        int[] onDay1 = {3, 64, 64, 0, 0};
        int[] onDay999 = {64, 64, 64, 0, 0};
        int[] forNothing = {4, 0, 0, 64, 0};
        for (int i = 0; i < 5; i++) {
            x.due(onDay0[i], "share " + i + " 0");
            x.due(onDay1[i], "share " + i + " 1");
            x.due(onDay999[i], "share " + i + " 999");
            x.due(onDay1[i] * SHARE, "chance " + i + " 1");
            x.due(forNothing[i] * SHARE, "nothing " + i);
        }
    }

    private static void partsAsTheyCome() {
        edges.sentence("PARTS 0 to 11 as they come");
        Run x = edges.run("");
        for (int i = 0; i < 12; i++) {
            x.due(i, "count 0");
            x.due(BAD, "part 65 0 0");
            x.due(BAD, "share " + i + " 0");
            x.due(i, "part " + 3 * i + " 0 0");
            x.due(3 * i, "share " + i + " 0");
        }
        edges.sentence("part: BAD; FULL: 12");
        x.due(FULL, "part 0 0 0");
        x.due(FULL, "part 64 64 64");
        for (String call : new String[] {"part -1 0 0", "part 0 65 0", "part 0 0 65"}) {
            x.due(BAD, call);
        }
        x.due(12, "count 0");
        x.due(BAD, "share 12 0");
        x.due(33, "share 11 0");
    }

    private static void partNumbers() {
        edges.sentence("PARTS 0 to 11 as they come");
        String vote = ", vote 1 1 0 0 0 0";
        for (int parts : new int[] {1, 2, 12}) {
            int last = parts - 1;
            String setup = Edges.each(parts, "part ? 0 0") + vote;
            edges.range(setup, "test ? 5", 0, 1, last, 1);
            edges.range(setup, "noTests ? 5", 0, 0, last, 0);
            edges.range(setup, "bypass ? 5 5", 0, 1, last, 1);
            edges.range(setup, "bypassed ? 5 5", 0, 0, last, 0);
            edges.range(setup, "share ? 5", 0, 0, last, last);
            edges.range(setup, "cost ? 5", 0, 1, last, 1);
            edges.range(setup, "matters 0 ? 5", 0, CERTAIN, last, last == 0 ? CERTAIN : 0);
        }
    }

    private static void testsRise() {
        edges.sentence("test: NO: not behind the latest");
        Run x = edges.run("part 1 1 0");
        x.due(1, "test 0 0");
        x.due(NO, "test 0 0");
        x.due(2, "test 0 1");
        x.due(NO, "test 0 1");
        x.due(NO, "test 0 0");
        x.due(3, "test 0 998");
        x.due(NO, "test 0 998");
        x.due(NO, "test 0 500");
        x.due(4, "test 0 999");
        x.due(NO, "test 0 999");
        x.due(NO, "test 0 0");
        x.due(BAD, "test 0 1000");
        x.due(BAD, "test 0 -1");
        x.due(4, "count 1");
        edges.due(1, "part 1 1 0", "test 0 999");
        edges.due(1, "part 1 1 0, part 1 1 0, test 1 999", "test 0 0");
    }

    private static void testsAreTwelve() {
        edges.sentence("test: BAD; NO: not behind the latest; FULL: 12");
        Run x = edges.run("part 1 1 0");
        for (int i = 1; i <= 12; i++) {
            x.due(i, "test 0 " + (i + 980));
        }
        x.due(FULL, "test 0 993");
        x.due(FULL, "test 0 999");
        x.due(NO, "test 0 992");
        x.due(NO, "test 0 0");
        x.due(BAD, "test 0 1000");
        x.due(BAD, "test 0 -1");
        x.due(BAD, "test 1 993");
        x.due(12, "count 1");
        x.due(1 + 7, "share 0 999");
    }

    private static void testsOfEachPart() {
        edges.sentence("A PART's TESTS are DAYS (rising, 12 at most)");
        Run x = edges.run(Edges.times(12, "part 1 1 0"));
        for (int part = 0; part < 12; part++) {
            for (int i = 1; i <= 12; i++) {
                x.due(i, "test " + part + " " + (20 * i - part));
            }
            x.due(12 * part + 12, "count 1");
            x.due(FULL, "test " + part + " 999");
        }
        for (int part = 0; part < 12; part++) {
            x.due(1, "share " + part + " " + (240 - part));
            x.due(20, "share " + part + " " + (239 - part));
        }
        for (int part = 0; part < 12; part++) {
            x.due(12, "noTests " + part + " 0");
        }
        x.due(0, "count 1");
    }

    private static void noTestsFromADayOn() {
        edges.sentence("All TESTS of a PART from a DAY on go: how many.");
        String setup = "part 1 1 0, part 1 1 0, test 0 3, test 0 6, test 0 9, test 1 6";
        int[][] gone = {{0, 3}, {2, 3}, {3, 3}, {4, 2}, {6, 2}, {7, 1}, {9, 1}, {10, 0}, {999, 0}};
        for (int[] row : gone) {
            Run x = edges.run(setup);
            x.due(row[1], "noTests 0 " + row[0]);
            x.due(4 - row[1], "count 1");
            x.due(row[1] == 0 ? 1 : row[1] == 1 ? 4 : row[1] == 2 ? 7 : 10, "share 0 9");
            x.due(4, "share 1 9");
            x.due(0, "noTests 0 " + row[0]);
        }
        edges.due(0, "part 1 1 0", "noTests 0 0");
        edges.due(12, "part 1 1 0, " + Edges.each(12, "test 0 ?"), "noTests 0 0");
        edges.due(1, "part 1 1 0, " + Edges.each(12, "test 0 ?"), "noTests 0 11");
        edges.due(1, "part 1 1 0, test 0 999", "noTests 0 999");
        edges.due(0, "part 1 1 0, test 0 998", "noTests 0 999");
    }

    private static void noTestsMakeRoom() {
        edges.sentence("All TESTS of a PART from a DAY on go");
        Run x = edges.run("part 1 1 0, " + Edges.each(12, "test 0 ?"));
        x.due(FULL, "test 0 12");
        x.due(1, "noTests 0 11");
        x.due(NO, "test 0 10");
        x.due(12, "test 0 11");
        x.due(FULL, "test 0 12");
        x.due(11, "noTests 0 1");
        x.due(NO, "test 0 0");
        x.due(2, "test 0 1");
        x.due(2, "noTests 0 0");
        x.due(1, "test 0 0");
        x.due(NO, "test 0 0");
        x.due(1, "count 1");
    }

    private static void lesserOf64() {
        edges.sentence("the lesser of 64 and b and a times how many DAYS");
        String parts = "part 3 2 0, part 4 2 0, part 0 1 0, part 63 1 0, part 64 64 0, part 0 64 0, part 63 0 0, "
            + "part 1 63 0";
        int[][] rows = {
            {0, 0, 3}, {0, 1, 5}, {0, 30, 63}, {0, 31, 64}, {0, 32, 64},
            {1, 29, 62}, {1, 30, 64}, {1, 31, 64},
            {2, 62, 62}, {2, 63, 63}, {2, 64, 64}, {2, 65, 64}, {2, 128, 64}, {2, 999, 64},
            {3, 0, 63}, {3, 1, 64}, {3, 2, 64},
            {4, 0, 64}, {4, 1, 64}, {4, 999, 64}, {5, 0, 0}, {5, 1, 64}, {5, 2, 64}, {5, 999, 64},
            {6, 0, 63}, {6, 999, 63}, {7, 0, 1}, {7, 1, 64}, {7, 2, 64},
        };
        Run x = edges.run(parts);
        for (int[] row : rows) {
            x.due(row[2], "share " + row[0] + " " + row[1]);
        }
    }

    private static void shareSinceLatestTest() {
        edges.sentence("since its latest TEST not behind t (DAY 0, if there is none: on the DAY of a TEST none)");
        Run x = edges.run("part 2 3 0, part 2 3 0");
        x.due(2, "share 0 0");
        x.due(14, "share 0 4");
        x.does("test 0 5");
        x.due(2, "share 0 0");
        x.due(14, "share 0 4");
        x.due(2, "share 0 5");
        x.due(5, "share 0 6");
        x.does("test 0 6");
        x.due(2, "share 0 5");
        x.due(2, "share 0 6");
        x.due(5, "share 0 7");
        x.does("test 0 999");
        x.due(64, "share 0 998");
        x.due(2, "share 0 999");
        x.due(5, "share 0 7");
        x.due(20, "share 1 6");
        x.does("noTests 0 6");
        x.due(5, "share 0 6");
        x.does("noTests 0 5");
        x.due(17, "share 0 5");
        x.does("test 0 0");
        x.due(2, "share 0 0");
        x.due(17, "share 0 5");
    }

    private static void shareOfTwelveTests() {
        edges.sentence("since its latest TEST not behind t");
        Run x = edges.run("part 5 3 0, " + Edges.each(12, "test 0 ?1"));
        for (int i = 0; i < 12; i++) {
            int day = i == 0 ? 1 : 10 * i + 1;
            x.due(i == 0 ? 5 : 32, "share 0 " + (day - 1));
            x.due(5, "share 0 " + day);
            x.due(8, "share 0 " + (day + 1));
        }
        x.due(5 + 3 * 19, "share 0 130");
        x.due(64, "share 0 131");
    }

    private static void shareUnderBypass() {
        edges.sentence("ITS SHARE on DAY t: 64, if a BYPASS is on it that DAY");
        Run x = edges.run("part 0 0 0, part 1 1 0, bypass 0 10 12, test 1 20, bypass 1 20 21");
        int[][] rows = {
            {0, 9, 0}, {0, 10, 64}, {0, 11, 64}, {0, 12, 64}, {0, 13, 0}, {0, 20, 0},
            {1, 10, 11}, {1, 19, 20}, {1, 20, 64}, {1, 21, 64}, {1, 22, 3},
        };
        for (int[] row : rows) {
            x.due(row[2], "share " + row[0] + " " + row[1]);
        }
        x.does("noTests 1 0");
        x.due(64, "share 1 20");
        x.due(23, "share 1 22");
        x.does("test 1 21");
        x.due(64, "share 1 21");
        x.due(2, "share 1 22");
    }

    private static void bypassesAreTwenty() {
        edges.sentence("BYPASSES, 20 at most");
        Run x = edges.run("part 0 0 0, part 0 0 0, part 0 0 0");
        for (int i = 1; i <= 20; i++) {
            x.due(i - 1, "count 2");
            x.due(i, "bypass " + i % 2 + " " + 10 * i + " " + 10 * i);
        }
        edges.sentence("bypass: BAD; FULL");
        x.due(FULL, "bypass 0 500 500");
        x.due(FULL, "bypass 1 500 500");
        x.due(FULL, "bypass 2 500 500");
        x.due(FULL, "bypass 0 20 20");
        x.due(BAD, "bypass 3 500 500");
        x.due(BAD, "bypass 0 501 500");
        x.due(BAD, "bypass 0 -1 500");
        x.due(BAD, "bypass 0 500 1000");
        x.due(20, "count 2");
        for (int i = 1; i <= 20; i++) {
            x.due(64, "share " + i % 2 + " " + 10 * i);
            x.due(0, "share " + (1 - i % 2) + " " + 10 * i);
        }
        for (int part = 0; part < 3; part++) {
            x.due(0, "share " + part + " 500");
        }
        Run one = edges.run("part 0 0 0, " + Edges.times(20, "bypass 0 7 7"));
        one.due(FULL, "bypass 0 7 7");
        one.due(1, "bypassed 0 0 999");
    }

    private static void bypassBothWith() {
        edges.sentence("DAYS from x to y (both with)");
        for (int day : new int[] {0, 1, 31, 32, 62, 63, 64, 65, 127, 128, 191, 192, 255, 256, 511, 512, 959, 960,
            998, 999}) {
            Run x = edges.run("part 0 0 0, bypass 0 " + day + " " + day);
            x.due(1, "bypassed 0 0 999");
            x.due(64, "share 0 " + day);
            x.due(day == 0 ? BAD : 0, "share 0 " + (day - 1));
            x.due(day == 999 ? BAD : 0, "share 0 " + (day + 1));
            x.due(1, "bypassed 0 0 " + day);
            x.due(1, "bypassed 0 " + day + " 999");
            x.due(1, "bypassed 0 " + day + " " + day);
            x.due(day == 0 ? BAD : 0, "bypassed 0 0 " + (day - 1));
            x.due(day == 999 ? BAD : 0, "bypassed 0 " + (day + 1) + " 999");
        }
        Run all = edges.run("part 0 0 0, bypass 0 0 999");
        for (int day = 0; day < 1000; day += 27) {
            all.due(64, "share 0 " + day);
        }
    }

    private static void bypassedDays() {
        edges.sentence("How many DAYS of x to y a PART is bypassed.");
        Run x = edges.run("part 0 0 0, part 0 0 0, bypass 0 100 900");
        x.due(801, "bypassed 0 0 999");
        x.due(801, "bypassed 0 100 900");
        x.due(800, "bypassed 0 101 900");
        x.due(800, "bypassed 0 100 899");
        x.due(0, "bypassed 0 0 99");
        x.due(1, "bypassed 0 0 100");
        x.due(1, "bypassed 0 900 999");
        x.due(0, "bypassed 0 901 999");
        x.due(1, "bypassed 0 500 500");
        x.due(0, "bypassed 1 0 999");
        Run several = edges.run("part 0 0 0, part 0 0 0, bypass 0 10 20, bypass 0 15 25, bypass 0 12 13, bypass 0 25 25, "
            + "bypass 0 26 30, bypass 0 10 20, bypass 1 40 49");
        several.due(21, "bypassed 0 0 999");
        several.due(6, "bypassed 0 15 20");
        several.due(3, "bypassed 0 19 21");
        several.due(2, "bypassed 0 29 31");
        several.due(10, "bypassed 1 0 999");
        several.due(0, "bypassed 1 10 30");
        Run none = edges.run("part 64 0 0");
        none.due(0, "bypassed 0 0 999");
    }

    private static void groupsAsTheyCome() {
        edges.sentence("GROUPS 0 to 3 as they come");
        Run x = edges.run("part 0 0 0, part 0 0 0, part 0 0 0");
        for (int i = 0; i < 4; i++) {
            x.due(i, "count 3");
            x.due(BAD, "group 65 3");
            x.due(BAD, "group 1 4");
            x.due(i, "group " + i + " 3");
        }
        edges.sentence("group: BAD (PARTS that are none, less than two); FULL");
        x.due(FULL, "group 0 3");
        x.due(FULL, "group 64 7");
        x.due(BAD, "group 65 3");
        x.due(BAD, "group -1 3");
        x.due(BAD, "group 1 8");
        x.due(BAD, "group 1 11");
        x.due(BAD, "group 1 1");
        x.due(BAD, "group 1 0");
        x.due(4, "count 3");
    }

    private static void groupsOfTwoAtLeast() {
        edges.sentence("PARTS (as bits, 2 at least)");
        int[] wild = {Integer.MIN_VALUE, Integer.MAX_VALUE, -1, -2, -4096, Integer.MIN_VALUE | 3, 1 << 30 | 3,
            1 << 16 | 3, 1 << 12 | 3};
        for (int parts = 0; parts <= 12; parts++) {
            String setup = Edges.times(parts, "part 0 0 0");
            int all = (1 << parts) - 1;
            Run refused = edges.run(setup);
            refused.due(BAD, "group 1 0");
            refused.due(BAD, "group 1 " + (all | 1 << parts));
            for (int bit = 0; bit < 32; bit++) {
                refused.due(BAD, "group 1 " + (1 << bit));
                if (bit >= parts) {
                    refused.due(BAD, "group 1 " + (1 | 1 << bit));
                    refused.due(BAD, "group 1 " + (3 | 1 << bit));
                }
            }
            for (int bits : wild) {
                refused.due(BAD, "group 1 " + bits);
            }
            refused.due(0, "count 3");
            if (parts >= 2) {
                edges.due(0, setup, "group 1 " + all);
                edges.due(0, setup, "group 1 " + (1 | 1 << parts - 1));
                edges.due(0, setup, "group 1 " + (3 << parts - 2));
            } else {
                edges.due(BAD, setup, "group 1 " + all);
            }
        }
        Run later = edges.run("part 0 0 0");
        later.due(BAD, "group 1 3");
        later.due(1, "part 0 0 0");
        later.due(0, "group 1 3");
    }

    private static void causeOnEachDay() {
        edges.sentence("a CAUSE that strikes all of them, on each DAY with SHARE c");
        Run x = edges.run("part 0 0 0, part 0 0 0, vote 1 2 0 1 0 0, group 16 3, test 0 400, bypass 0 5 5");
        for (int day : new int[] {0, 1, 5, 399, 400, 401, 999}) {
            x.due(16 * SHARE, "chance 0 " + day);
        }
        x.due(200 * 16 * SHARE, "over 0 800 999");
        int[] causes = {0, 1, 63, 64};
        for (int c : causes) {
            edges.due(c * SHARE, "part 0 0 0, part 0 0 0, vote 1 2 0 1 0 0, group " + c + " 3", "chance 0 999");
        }
        edges.due(0, "part 0 0 0, part 0 0 0, vote 1 2 0 1 0 0, group 64 3", "share 0 0");
    }

    private static void causeStrikesAll() {
        edges.sentence("a CAUSE that strikes all of them");
        String setup = Edges.times(5, "part 0 0 0") + ", vote 1 4 0 1 2 3, vote 1 3 0 1 2 0, vote 4 4 0 1 2 3, "
            + "vote 1 1 4 0 0 0";
        Run three = edges.run(setup + ", group 32 7");
        three.due(0, "chance 0 0");
        three.due(32 * SHARE, "chance 1 0");
        three.due(32 * SHARE, "chance 2 0");
        three.due(0, "chance 3 0");
        Run two = edges.run(setup + ", group 32 3, group 32 12");
        two.due(16 * SHARE, "chance 0 0");
        two.due(16 * SHARE, "chance 1 0");
        two.due(48 * SHARE, "chance 2 0");
        Run outer = edges.run(setup + ", group 32 24");
        outer.due(0, "chance 0 0");
        outer.due(32 * SHARE, "chance 2 0");
        outer.due(32 * SHARE, "chance 3 0");
    }

    private static void failByThemselvesOrByIt() {
        edges.sentence("It is an EVENT by itself; PARTS fail by themselves or by it.");
        String part = "part 16 0 0, part 0 0 0, vote 1 1 0 0 0 0, vote 1 2 0 1 0 0";
        Run x = edges.run(part + ", group 32 3");
        x.due(40 * SHARE, "chance 0 0");
        x.due(32 * SHARE, "chance 1 0");
        x.due(2, "below 0 2");
        Run four = edges.run(part + ", " + Edges.times(4, "group 32 3"));
        four.due(61 * SHARE, "chance 0 0");
        four.due(60 * SHARE, "chance 1 0");
        four.due(5, "below 0 2");
        Run sure = edges.run("part 64 0 0, part 0 0 0, vote 1 1 0 0 0 0, vote 1 2 0 1 0 0, group 32 3");
        sure.due(CERTAIN, "chance 0 0");
        sure.due(32 * SHARE, "chance 1 0");
    }

    private static void counts() {
        edges.sentence("How many: 0 PARTS, 1 TESTS, 2 BYPASSES, 3 GROUPS, 4 VOTES. BAD.");
        edges.range("", "count ?", 0, 0, 4, 0);
        edges.range("part 0 0 0, vote 1 1 0 0 0 0", "count ?", 0, 1, 4, 1);
        Run x = edges.run(ALL_PARTS + ", " + Edges.times(11, "vote 1 1 0 0 0 0") + ", test 3 1, test 3 2, test 4 1, "
            + Edges.times(4, "bypass 0 1 1") + ", group 1 3, group 1 3");
        int[] there = {12, 3, 4, 2, 11};
        for (int what = 0; what < 5; what++) {
            x.due(there[what], "count " + what);
        }
        x.does("noTests 3 2");
        x.due(2, "count 1");
        x.does("vote 1 1 0 0 0 0");
        x.due(12, "count 4");
    }
}
