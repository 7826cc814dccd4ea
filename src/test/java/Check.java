/** Counts answers that are not the due ones, and tells each. */
final class Check {
    private int wrong = 0, asked = 0;

    void due(String what, long got, long want) {
        asked++;
        if (got == want) return;
        wrong++;
        System.out.println(what + " answered " + got + ", due is " + want);
    }

    void due(String what, boolean got, boolean want) {
        due(what, got ? 1 : 0, want ? 1 : 0);
    }

    void due(String what, String got, String want) {
        asked++;
        if (got.equals(want)) return;
        wrong++;
        System.out.println(what + " answered " + got + ", due is " + want);
    }

    /** Ends the program, with exit code 1 if one answer was wrong. */
    void end(String name) {
        System.out.println(name + ": " + asked + " answers looked at, " + wrong + " wrong");
        System.exit(wrong == 0 ? 0 : 1);
    }

    boolean failed() {
        return wrong > 0;
    }
}
