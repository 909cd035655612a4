/** Counts and prints what is not as due; end() leaves with exit code 1 if there was any. */
final class Check {
    private final String name;
    private int checked = 0;
    private int wrong = 0;

    Check(String name) {
        this.name = name;
    }

    void due(String what, long due, long got) {
        checked++;
        if (due != got) {
            fail(what + " answered " + got + ", due is " + due);
        }
    }

    void same(String what, String due, String got) {
        checked++;
        if (!due.equals(got)) {
            fail(what + " is " + got + ", due is " + due);
        }
    }

    void that(String what, boolean holds) {
        checked++;
        if (!holds) {
            fail("does not hold: " + what);
        }
    }

    boolean hasFailedOften() {
        return wrong > 20;
    }

    void end() {
        System.out.println(name + ": " + checked + " checked, " + wrong + " wrong");
        if (wrong != 0) {
            System.exit(1);
        }
    }

    private void fail(String text) {
        wrong++;
        System.out.println(name + ": " + text);
    }
}
