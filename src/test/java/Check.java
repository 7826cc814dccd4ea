/** Counts answers that are not the due ones, and tells each. */
final class Check {
    private final String name;
    private int wrong = 0, asked = 0;

    Check(String name) {
        this.name = name;
    }

    void due(String what, long got, long want) {
        asked++;
        if (got == want) return;
        wrong++;
        System.out.println(name + ": " + what + " answered " + got + ", due is " + want);
    }

    void due(String what, boolean got, boolean want) {
        due(what, got ? 1 : 0, want ? 1 : 0);
    }

    /** Ends the program, with exit code 1 if one answer was wrong. */
    void end() {
        System.out.println(name + ": " + asked + " answers looked at, " + wrong + " wrong");
        System.exit(wrong == 0 ? 0 : 1);
    }

    boolean failed() {
        return wrong > 0;
    }
}
