/** Counts the answers that are not as due, and ends a test with exit code 1 if there was one. */
final class Check {
    private int wrong = 0;
    private int seen = 0;

    void due(String call, int got, int want) {
        seen++;
        if (got != want) {
            wrong++;
            System.out.println(call + " answered " + got + ", due is " + want);
        }
    }

    void same(String what, String got, String want) {
        seen++;
        if (!got.equals(want)) {
            wrong++;
            System.out.println(what + ":\n  is     " + got + "\n  due is " + want);
        }
    }

    void holds(String what, boolean truth) {
        seen++;
        if (!truth) {
            wrong++;
            System.out.println("does not hold: " + what);
        }
    }

    void end() {
        System.out.println(wrong == 0 ? seen + " checks are as due" : wrong + " of " + seen + " checks are not as due");
        if (wrong != 0) {
            System.exit(1);
        }
    }
}
