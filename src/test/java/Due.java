/** Counts answers, prints those that are not due, and ends a test with its exit code. */
final class Due {
    private final String test;
    private int passed = 0;
    private int failed = 0;

    Due(String test) {
        this.test = test;
    }

    void is(String call, long got, long want) {
        if (got == want) {
            passed++;
        } else {
            failed++;
            System.out.println(test + ": " + call + " answered " + got + ", due is " + want);
        }
    }

    void holds(String what, boolean does) {
        is(what, does ? 1 : 0, 1);
    }

    int failed() {
        return failed;
    }

    void end() {
        System.out.println(test + ": " + passed + " answers as due, " + failed + " not");
        if (failed > 0 || passed == 0) {
            System.exit(1);
        }
    }
}
