/** Counts the answers that are not as due, and tells them. */
final class Due {
    private final String test;
    private int right = 0;
    private int wrong = 0;

    Due(String test) {
        this.test = test;
    }

    void is(String call, long got, long want) {
        if (got == want) {
            right++;
        } else {
            wrong++;
            System.out.println(test + ": " + call + " answered " + got + ", due is " + want);
        }
    }

    void holds(String claim, boolean isSo) {
        is(claim, isSo ? 1 : 0, 1);
    }

    int wrong() {
        return wrong;
    }

    void end() {
        System.out.println(test + ": " + right + " as due, " + wrong + " not");
        if (wrong != 0 || right == 0) {
            System.exit(1);
        }
    }
}
