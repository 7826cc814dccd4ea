import java.util.Random;

/**
 * Runs of at most 512 calls on a new object and a new model of the document, chosen by a random
 * source with fixed seeds, so that every run of the test asks the same.
 */
public final class ModelRunsTest {
    private static final int RUNS = 6000, CALLS = 512;

    private final Check check;
    private final Random random;
    private final int seed;
    private final CodeShelf shelf = new CodeShelf();
    private final Model model = new Model();
    private final int letters, spread, lineEnds;
    private int calls = 0;

    private ModelRunsTest(Check check, int seed) {
        this.check = check;
        this.seed = seed;
        random = new Random(seed);
        letters = 1 + random.nextInt(6);
        spread = 1 + random.nextInt(10);
        lineEnds = 2 + random.nextInt(12);
    }

    public static void main(String[] args) {
        Check check = new Check();
        for (int seed = 0; seed < RUNS && !check.failed(); seed++) {
            new ModelRunsTest(check, seed).run();
        }
        check.end("ModelRunsTest");
    }

    private void same(String call, int got, int want) {
        calls++;
        check.due("seed " + seed + ", call " + calls + ": " + call, got, want);
    }

    private void run() {
        while (calls < CALLS - 60) {
            switch (random.nextInt(12)) {
                case 0: case 1: case 2: case 3: keepOne(); break;
                case 4: removeOne(); break;
                case 5: if (random.nextInt(3) == 0) same("sync", shelf.sync(), model.sync()); break;
                case 6: crashOne(); break;
                case 7: if (random.nextInt(8) == 0) same("settle", shelf.settle(), model.settle()); break;
                case 8: case 9: searchOne(); break;
                default: look(1 + random.nextInt(6)); break;
            }
        }
        while (calls < CALLS) look(1);
    }

    private int fileNumber() {
        return random.nextInt(30) == 0 ? odd() : random.nextInt(spread);
    }

    private int odd() {
        int[] values = {-1, 10, 11, 40, 41, 64, -2, 100, Integer.MAX_VALUE, Integer.MIN_VALUE, 6, 7};
        return values[random.nextInt(values.length)];
    }

    private int character() {
        if (random.nextInt(60) == 0) return odd();
        return random.nextInt(lineEnds) == 0 ? 6 : random.nextInt(letters);
    }

    private void keepOne() {
        int length = random.nextInt(3) == 0 ? random.nextInt(44) : random.nextInt(9);
        for (int i = 0; i < length && calls < CALLS - 100; i++) {
            int c = character();
            same("type(" + c + ")", shelf.type(c), model.type(c));
        }
        int f = fileNumber();
        same("keep(" + f + ")", shelf.keep(f), model.keep(f));
    }

    private void removeOne() {
        int f = fileNumber();
        same("remove(" + f + ")", shelf.remove(f), model.remove(f));
    }

    private void crashOne() {
        if (random.nextInt(3) != 0) return;
        int n = random.nextInt(10) == 0 ? odd() : random.nextInt(7);
        same("crash(" + n + ")", shelf.crash(n), model.crash(n));
    }

    private void addToken(int kind) {
        int a = random.nextInt(letters), b = random.nextInt(4);
        if (kind == 2) a = random.nextInt(1 << letters);
        if (kind == 9) a = random.nextInt(4);
        if (random.nextInt(50) == 0) a = odd();
        if (random.nextInt(50) == 0) b = odd();
        same("token(" + kind + ", " + a + ", " + b + ")", shelf.token(kind, a, b), model.token(kind, a, b));
    }

    private void searchOne() {
        if (random.nextInt(4) != 0) same("wipe", shelf.wipe(), model.wipe());
        if (random.nextInt(3) == 0) wildTokens(); else orderlyTokens();
        searchBoth();
    }

    private void searchBoth() {
        same("search", shelf.search(), model.search());
        same("place", shelf.place(), model.place());
        same("state(4)", shelf.state(4), model.state(4));
        for (int f = 0; f < spread && f < 10; f++) lookOpened(f);
        for (int k = 0; k < 3; k++) lookHit(random.nextInt(4));
    }

    private void wildTokens() {
        int n = random.nextInt(18);
        for (int i = 0; i < n; i++) {
            int kind = random.nextInt(40) == 0 ? odd() : random.nextInt(12);
            addToken(kind);
        }
    }

    /** Tokens that mostly are an alt: repeats behind items, and as many brackets closed as opened. */
    private void orderlyTokens() {
        int n = random.nextInt(14), depth = 0;
        boolean behindItem = false;
        boolean plain = random.nextBoolean();
        for (int i = 0; i < n; i++) {
            int kind;
            int choice = random.nextInt(12);
            if (choice < (plain ? 8 : 5)) kind = new int[] {0, 0, 0, 2, 2, 1, 10, 11}[random.nextInt(plain ? 5 : 8)];
            else if (choice < 8) kind = behindItem ? 6 + random.nextInt(4) : 0;
            else if (choice == 8) kind = 5;
            else if (choice == 9 || depth == 0) kind = 3;
            else kind = 4;
            if (kind == 3) depth++;
            if (kind == 4) depth--;
            behindItem = kind != 3 && kind != 5;
            addToken(kind);
        }
        for (; depth > 0; depth--) addToken(4);
    }

    private void lookOpened(int f) {
        same("opened(" + f + ")", shelf.opened(f) ? 1 : 0, model.opened(f) ? 1 : 0);
    }

    private void lookHit(int what) {
        int k = random.nextInt(12) == 0 ? odd() : random.nextInt(random.nextBoolean() ? 4 : 42);
        same("hit(" + k + ", " + what + ")", shelf.hit(k, what), model.hit(k, what));
    }

    private void look(int times) {
        for (int i = 0; i < times; i++) lookOnce();
    }

    private void lookOnce() {
        int what = random.nextInt(20) == 0 ? odd() : random.nextInt(7);
        int f = fileNumber();
        int k = random.nextInt(20) == 0 ? odd() : random.nextInt(6);
        int j = random.nextInt(20) == 0 ? odd() : random.nextInt(12);
        switch (random.nextInt(8)) {
            case 0: same("file(" + f + ", " + what + ")", shelf.file(f, what), model.file(f, what)); break;
            case 1: same("at(" + f + ", " + j + ")", shelf.at(f, j), model.at(f, j)); break;
            case 2: lookHaving(); break;
            case 3: same("segment(" + k + ", " + what + ")", shelf.segment(k, what), model.segment(k, what)); break;
            case 4: same("document(" + j + ", " + what + ")", shelf.document(j, what), model.document(j, what)); break;
            case 5: lookHit(what); break;
            case 6: lookOpened(f); break;
            default: same("state(" + what + ")", shelf.state(what), model.state(what)); break;
        }
    }

    private void lookHaving() {
        int a = character(), b = random.nextInt(letters), c = random.nextInt(letters);
        same("having(" + a + ", " + b + ", " + c + ")", shelf.having(a, b, c), model.having(a, b, c));
    }
}
