/** Compares answers with those that are due, and tells the ones that differ. */
final class Due {
    private final String title;
    private int wrong = 0;
    private int calls = 0;

    Due(String title) {
        this.title = title;
    }

    void is(String what, long got, long want) {
        calls++;
        if (got != want) {
            wrong++;
            if (wrong <= 50) {
                System.out.println(title + ": " + what + " answered " + got + ", due is " + want);
            }
        }
    }

    void holds(String what, boolean truth) {
        is(what, truth ? 1 : 0, 1);
    }

    int wrong() {
        return wrong;
    }

    void end() {
        System.out.println(title + ": " + calls + " answers, " + wrong + " not as due");
        if (wrong != 0) {
            System.exit(1);
        }
    }
}
