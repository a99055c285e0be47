/** Counts answers that are as due and those that are not. */
final class Due {
    private final String name;
    private int right;
    private int wrong;

    Due(String name) {
        this.name = name;
    }

    void same(String call, long got, long want) {
        if (got == want) {
            right++;
            return;
        }
        wrong++;
        if (wrong <= 50) {
            System.out.println(name + ": " + call + " answered " + got + ", due is " + want);
        }
    }

    void yes(String call, boolean got) {
        same(call, got ? 1 : 0, 1);
    }

    void no(String call, boolean got) {
        same(call, got ? 1 : 0, 0);
    }

    int wrong() {
        return wrong;
    }

    int asked() {
        return right + wrong;
    }

    /** Ends the program: 1 if an answer was wrong. */
    void end() {
        System.out.println(name + ": " + right + " right, " + wrong + " wrong");
        System.exit(wrong == 0 ? 0 : 1);
    }
}
