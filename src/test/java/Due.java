/** Counts the answers that are not the ones due, and prints each. */
final class Due {
    private static final int MOST_PRINTED = 50;

    private int wrong = 0;
    private int asked = 0;
    private String where = "";

    void in(String place) {
        where = place;
    }

    void is(String call, int got, int want) {
        asked++;
        if (got != want) {
            wrong++;
            if (wrong <= MOST_PRINTED) {
                System.out.println(where + ": " + call + " answered " + got + ", due is " + want);
            }
        }
    }

    void holds(String what, boolean got) {
        is(what, got ? 1 : 0, 1);
    }

    int askedCount() {
        return asked;
    }

    int wrongCount() {
        return wrong;
    }

    void end() {
        System.out.println(asked + " answers looked at, " + wrong + " not as due");
        if (wrong != 0) {
            System.exit(1);
        }
    }
}
