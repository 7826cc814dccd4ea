/** Short ways to make shelves and ask them, for tests whose answers are written down by hand. */
abstract class Asking {
    static final int NONE = -1, REFUSED = -1, SYNTAX = -2, LARGE = -3;
    static final int LOW = Integer.MIN_VALUE, HIGH = Integer.MAX_VALUE;

    static final Check CHECK = new Check();

    static void due(String what, long got, long want) {
        CHECK.due(what, got, want);
    }

    // ---- short ways to say texts and expressions

    static void draft(CodeShelf x, String text) {
        for (int i = 0; i < text.length(); i++) x.type(text.charAt(i) - '0');
    }

    static int put(CodeShelf x, int f, String text) {
        draft(x, text);
        return x.keep(f);
    }

    /**
     * An expression of letters 0..5, . for ANY, [135] for CLASS, {12} for COUNT 1 2, and
     * ( ) | * + ? ^ $ as they are.
     */
    static void express(CodeShelf x, String expression) {
        x.wipe();
        int tokens = 0;
        for (int i = 0; i < expression.length(); i++) {
            char c = expression.charAt(i);
            int kind = "0.[()|*+?{^$".indexOf(c), a = 0, b = 0;
            if (c >= '0' && c <= '5') {
                kind = 0;
                a = c - '0';
            }
            if (c == '[') for (i++; expression.charAt(i) != ']'; i++) a |= 1 << (expression.charAt(i) - '0');
            if (c == '{') {
                a = expression.charAt(i + 1) - '0';
                b = expression.charAt(i + 2) - '0';
                i += 3;
            }
            tokens++;
            due("token of " + expression, x.token(kind, a, b), tokens);
        }
    }

    static int search(CodeShelf x, String expression) {
        express(x, expression);
        return x.search();
    }

    /** The matches of an expression in a single file, as "line:begin-end line:begin-end ..". */
    static void matches(String expression, String text, String want) {
        CodeShelf x = new CodeShelf();
        put(x, 3, text);
        int n = search(x, expression);
        StringBuilder got = new StringBuilder();
        for (int k = 0; k < n; k++) {
            if (k > 0) got.append(' ');
            got.append(x.hit(k, 1)).append(':').append(x.hit(k, 2)).append('-').append(x.hit(k, 3));
            due(expression + " hit(" + k + ", 0)", x.hit(k, 0), 3);
        }
        CHECK.due("the matches of " + expression + " in " + text, got.toString(), want);
    }

    static void opens(String expression, String text, boolean want) {
        CodeShelf x = new CodeShelf();
        put(x, 7, text);
        search(x, expression);
        CHECK.due("opened by " + expression + " with " + text, x.opened(7), want);
    }

    static void answers(String expression, int want) {
        CodeShelf x = new CodeShelf();
        due("search of " + expression, search(x, expression), want);
    }

    static void syntax(String expression, int want) {
        CodeShelf x = new CodeShelf();
        put(x, 0, "0");
        due("search of " + expression, search(x, expression), SYNTAX);
        due("place of " + expression, x.place(), want);
    }

    static void nothingFound(CodeShelf x) {
        due("nothing is found", x.hit(0, 0), NONE);
        for (int f = 0; f < 10; f++) CHECK.due("nothing is opened", x.opened(f), false);
        due("nothing is read", x.state(4), 0);
    }

    // ---- looking at a whole shelf

    static String text(CodeShelf x, int f) {
        StringBuilder all = new StringBuilder();
        int length = x.file(f, 0);
        for (int i = 0; i < length; i++) all.append(x.at(f, i));
        return all.toString();
    }

    /**
     * All that can be asked without changing anything, but for the expression: some 100 calls, and
     * more for each character, document and match.
     */
    static String look(CodeShelf x) {
        StringBuilder all = new StringBuilder("state");
        for (int what = 0; what < 6; what++) all.append(' ').append(x.state(what));
        for (int f = 0; f < 10; f++) {
            all.append(", file ").append(f).append(x.opened(f) ? " opened" : "");
            for (int what = 0; what < 4; what++) all.append(' ').append(x.file(f, what));
            all.append(' ').append(text(x, f));
        }
        for (int k = 0; x.segment(k, 0) != NONE; k++) {
            all.append(", segment");
            for (int what = 0; what < 5; what++) all.append(' ').append(x.segment(k, what));
        }
        for (int j = 0; x.document(j, 0) != NONE; j++) {
            all.append(", document");
            for (int what = 0; what < 4; what++) all.append(' ').append(x.document(j, what));
        }
        for (int k = 0; x.hit(k, 0) != NONE; k++) {
            all.append(", hit");
            for (int what = 0; what < 4; what++) all.append(' ').append(x.hit(k, what));
        }
        return all.append(", place ").append(x.place()).toString();
    }

    static void same(String what, CodeShelf got, CodeShelf want) {
        CHECK.due(what, look(got), look(want));
    }

    /**
     * Numbers that are not in low..high: the nearest ones, the farthest ones, and some that times
     * 4 or 40 wrap around to small ones.
     */
    static int[] outside(int low, int high) {
        return new int[] {low - 1, high + 1, low - 2, high + 2, LOW, LOW + 1, HIGH, HIGH - 1,
            1 << 30, -(1 << 30), 107374183, -107374182, 1000, -1000};
    }
}
