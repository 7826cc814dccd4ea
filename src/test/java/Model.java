import java.util.ArrayList;
import java.util.LinkedHashSet;
import java.util.List;
import java.util.Map;
import java.util.Set;
import java.util.TreeMap;
import java.util.TreeSet;
import java.util.function.Predicate;

/**
 * The document said once more, by other means than the class (strings, sets, trees, recursion),
 * for tests that compare the answers of both. Texts are strings of the digits '0'..'6'.
 */
final class Model {
    static final int NONE = -1, REFUSED = -1, SYNTAX = -2, LARGE = -3;

    private record Change(int file, String text) { }

    private static final class Document {
        int number, file;
        String text;
        boolean live = true;
    }

    private record Token(int kind, int a, int b) { }

    private record Hit(int file, int line, int begin, int end) { }

    private String draft = "";
    private Map<Integer, String> lasting = new TreeMap<>();
    private List<Change> waiting = new ArrayList<>();
    private List<List<Document>> segments = new ArrayList<>();
    private int made = 0;
    private final List<Token> tokens = new ArrayList<>();
    private List<Hit> found = new ArrayList<>();
    private Set<Integer> openedFiles = new TreeSet<>();
    private int blocks = 0;
    private int told = NONE;

    // ---- files and changes

    private Map<Integer, String> files() {
        Map<Integer, String> now = new TreeMap<>(lasting);
        for (Change c : waiting) {
            if (c.text == null) now.remove(c.file); else now.put(c.file, c.text);
        }
        return now;
    }

    int type(int c) {
        if (c < 0 || c > 6 || draft.length() == 40) return REFUSED;
        draft += (char) ('0' + c);
        return draft.length();
    }

    private int change(int f, String text) {
        if (waiting.size() == 6) sync();
        waiting.add(new Change(f, text));
        return waiting.size();
    }

    int keep(int f) {
        if (f < 0 || f > 9) return REFUSED;
        String text = draft;
        draft = "";
        return change(f, text);
    }

    int remove(int f) {
        return files().containsKey(f) ? change(f, null) : REFUSED;
    }

    int sync() {
        if (waiting.isEmpty()) return segments.size();
        Map<Integer, String> now = files();
        Set<Integer> changed = new TreeSet<>();
        for (Change c : waiting) changed.add(c.file);
        for (List<Document> s : segments) {
            for (Document d : s) if (changed.contains(d.file)) d.live = false;
        }
        List<Document> fresh = new ArrayList<>();
        for (int f : changed) {
            if (!now.containsKey(f)) continue;
            Document d = new Document();
            d.number = made++;
            d.file = f;
            d.text = now.get(f);
            fresh.add(d);
        }
        if (!fresh.isEmpty()) segments.add(fresh);
        lasting = now;
        waiting.clear();
        while (segments.size() >= 2
                && segments.get(segments.size() - 1).size() >= segments.get(segments.size() - 2).size()) {
            List<Document> both = new ArrayList<>();
            List<Document> last = segments.remove(segments.size() - 1);
            for (Document d : segments.remove(segments.size() - 1)) if (d.live) both.add(d);
            for (Document d : last) if (d.live) both.add(d);
            if (!both.isEmpty()) segments.add(both);
        }
        return segments.size();
    }

    int crash(int n) {
        if (n < 0) return REFUSED;
        int lost = 0;
        while (waiting.size() > n) {
            waiting.remove(waiting.size() - 1);
            lost++;
        }
        return lost;
    }

    int settle() {
        sync();
        List<Document> live = new ArrayList<>();
        for (Document d : documents()) if (d.live) live.add(d);
        segments = new ArrayList<>();
        if (!live.isEmpty()) segments.add(live);
        return live.size();
    }

    private List<Document> documents() {
        List<Document> all = new ArrayList<>();
        for (List<Document> s : segments) all.addAll(s);
        all.sort((p, q) -> p.number - q.number);
        return all;
    }

    // ---- questions about files, segments and documents

    static Set<String> trigrams(String text) {
        Set<String> all = new TreeSet<>();
        for (String line : text.split("6", -1)) {
            for (int i = 0; i + 3 <= line.length(); i++) all.add(line.substring(i, i + 3));
        }
        return all;
    }

    int file(int f, int what) {
        if (what == 3) {
            for (Document d : documents()) if (d.live && d.file == f) return d.number;
            return NONE;
        }
        String text = files().get(f);
        if (text == null) return NONE;
        if (what == 0) return text.length();
        if (what == 1) return text.split("6", -1).length;
        if (what == 2) return trigrams(text).size();
        return NONE;
    }

    int at(int f, int i) {
        String text = files().get(f);
        return text == null || i < 0 || i >= text.length() ? NONE : text.charAt(i) - '0';
    }

    int having(int a, int b, int c) {
        for (int l : new int[] {a, b, c}) if (l < 0 || l > 5) return REFUSED;
        int n = 0;
        for (String text : files().values()) if (text.contains("" + a + b + c)) n++;
        return n;
    }

    int segment(int k, int what) {
        if (k < 0 || k >= segments.size()) return NONE;
        List<Document> s = segments.get(k);
        Map<String, List<Integer>> lists = new TreeMap<>();
        int live = 0, least = Integer.MAX_VALUE;
        for (Document d : s) {
            if (d.live) live++;
            least = Math.min(least, d.number);
            for (String t : trigrams(d.text)) lists.computeIfAbsent(t, x -> new ArrayList<>()).add(d.number);
        }
        int bits = 0;
        for (List<Integer> list : lists.values()) {
            list.sort(null);
            bits += bits(list.get(0) + 1);
            for (int i = 1; i < list.size(); i++) bits += bits(list.get(i) - list.get(i - 1));
        }
        switch (what) {
            case 0: return s.size();
            case 1: return live;
            case 2: return lists.size();
            case 3: return bits;
            case 4: return least;
            default: return NONE;
        }
    }

    private static int bits(int d) {
        return 2 * (Integer.toBinaryString(d).length() - 1) + 1;
    }

    int document(int j, int what) {
        List<Document> all = documents();
        if (j < 0 || j >= all.size()) return NONE;
        Document d = all.get(j);
        switch (what) {
            case 0: return d.number;
            case 1: return d.file;
            case 2: return d.live ? 1 : 0;
            case 3:
                for (int k = 0; k < segments.size(); k++) if (segments.get(k).contains(d)) return k;
                return NONE;
            default: return NONE;
        }
    }

    // ---- expressions

    int token(int kind, int a, int b) {
        if (tokens.size() == 16 || kind < 0 || kind > 11) return REFUSED;
        if (kind == 0 && (a < 0 || a > 5)) return REFUSED;
        if (kind == 2 && (a < 1 || a > 63)) return REFUSED;
        if (kind == 9 && !(0 <= a && a <= b && b <= 3)) return REFUSED;
        tokens.add(new Token(kind, a, b));
        return tokens.size();
    }

    int wipe() {
        int n = tokens.size();
        tokens.clear();
        return n;
    }

    /** One part: what it matches, its SIZE, and what a text must have for it. */
    private abstract static class Part {
        int size;
        Set<String> words;
        Set<String> heads = Set.of(""), tails = Set.of("");
        Predicate<Set<String>> claim = has -> true;

        private final Map<String, Set<Integer>> known = new TreeMap<>();

        abstract Set<Integer> find(String line, int i);

        Set<Integer> ends(String line, int i) {
            String key = line + "@" + i;
            if (!known.containsKey(key)) known.put(key, find(line, i));
            return known.get(key);
        }
    }

    private static Set<String> set() {
        return new LinkedHashSet<>();
    }

    private static Predicate<Set<String>> some(Set<String> rows) {
        return has -> {
            for (String row : rows) if (row.length() < 3 || has.containsAll(trigrams(row))) return true;
            return false;
        };
    }

    private static String first(String row) {
        return row.length() < 2 ? row : row.substring(0, 2);
    }

    private static String last(String row) {
        return row.length() < 2 ? row : row.substring(row.length() - 2);
    }

    private static Set<String> limited(Set<String> ends) {
        return ends.size() > 8 ? Set.of("") : ends;
    }

    private static Set<String> product(Set<String> x, Set<String> y) {
        Set<String> all = set();
        for (String p : x) for (String q : y) all.add(p + q);
        return all;
    }

    private static Set<String> union(Set<String> x, Set<String> y) {
        Set<String> all = set();
        all.addAll(x);
        all.addAll(y);
        return all;
    }

    /** Only of use where no rule needs the WORDS of the part any more, but its other three. */
    private static Part loosened(Part p) {
        if (p.words == null) return p;
        Part q = new Part() {
            @Override Set<Integer> find(String line, int i) { return p.ends(line, i); }
        };
        q.heads = set();
        q.tails = set();
        for (String w : p.words) {
            q.heads.add(first(w));
            q.tails.add(last(w));
        }
        q.heads = limited(q.heads);
        q.tails = limited(q.tails);
        q.claim = some(p.words);
        return q;
    }

    private static Part leaf(Token t) {
        Part p = new Part() {
            @Override Set<Integer> find(String line, int i) {
                if (t.kind == 10) return i == 0 ? Set.of(i) : Set.of();
                if (t.kind == 11) return i == line.length() ? Set.of(i) : Set.of();
                if (i == line.length()) return Set.of();
                int l = line.charAt(i) - '0';
                boolean fits = t.kind == 1 || (t.kind == 0 ? l == t.a : (t.a >> l) % 2 == 1);
                return fits ? Set.of(i + 1) : Set.of();
            }
        };
        p.size = 1;
        if (t.kind >= 10) p.words = Set.of("");
        if (t.kind == 0) p.words = Set.of("" + t.a);
        if (t.kind == 2 && Integer.bitCount(t.a) <= 3) {
            p.words = set();
            for (int l = 0; l < 6; l++) if ((t.a >> l) % 2 == 1) p.words.add("" + l);
        }
        return p;
    }

    private static Part nothing() {
        Part p = new Part() {
            @Override Set<Integer> find(String line, int i) { return Set.of(i); }
        };
        p.words = Set.of("");
        return p;
    }

    private static Part alt(Part x, Part y) {
        Part p = new Part() {
            @Override Set<Integer> find(String line, int i) {
                Set<Integer> all = new TreeSet<>(x.ends(line, i));
                all.addAll(y.ends(line, i));
                return all;
            }
        };
        p.size = x.size + y.size + 2;
        if (x.words != null && y.words != null && union(x.words, y.words).size() <= 8) {
            p.words = union(x.words, y.words);
            return p;
        }
        Part lx = loosened(x), ly = loosened(y);
        p.heads = limited(union(lx.heads, ly.heads));
        p.tails = limited(union(lx.tails, ly.tails));
        p.claim = lx.claim.or(ly.claim);
        return p;
    }

    private static Set<Integer> endsOfAll(Part p, String line, Set<Integer> starts) {
        Set<Integer> all = new TreeSet<>();
        for (int i : starts) all.addAll(p.ends(line, i));
        return all;
    }

    private static Part seq(Part x, Part y) {
        Part p = new Part() {
            @Override Set<Integer> find(String line, int i) { return endsOfAll(y, line, x.ends(line, i)); }
        };
        p.size = x.size + y.size;
        if (x.words != null && y.words != null) {
            Set<String> both = product(x.words, y.words);
            if (both.size() <= 8 && both.stream().allMatch(w -> w.length() <= 5)) {
                p.words = both;
                return p;
            }
        }
        Part lx = loosened(x), ly = loosened(y);
        p.claim = lx.claim.and(ly.claim).and(some(product(lx.tails, ly.heads)));
        p.heads = lx.heads;
        if (x.words != null) {
            p.heads = set();
            for (String row : product(x.words, ly.heads)) p.heads.add(first(row));
            p.heads = limited(p.heads);
        }
        p.tails = ly.tails;
        if (y.words != null) {
            p.tails = set();
            for (String row : product(lx.tails, y.words)) p.tails.add(last(row));
            p.tails = limited(p.tails);
        }
        return p;
    }

    private static Part repeat(Part x, Token t) {
        Part p = new Part() {
            @Override Set<Integer> find(String line, int i) {
                Set<Integer> all = new TreeSet<>();
                if (t.kind <= 7) {
                    all.addAll(t.kind == 6 ? Set.of(i) : x.ends(line, i));
                    while (all.addAll(endsOfAll(x, line, all))) { }
                    return all;
                }
                Set<Integer> now = Set.of(i);
                for (int n = 0; n <= (t.kind == 8 ? 1 : t.b); n++) {
                    if (t.kind == 8 || n >= t.a) all.addAll(now);
                    now = endsOfAll(x, line, now);
                }
                return all;
            }
        };
        Part lx = loosened(x);
        if (t.kind == 6) p.size = x.size + 2;
        if (t.kind == 7) p.size = x.size + 1;
        if (t.kind == 9) p.size = t.b * x.size + t.b - t.a;
        if (t.kind == 9 && t.b == 0) {
            p.words = Set.of("");
        } else if (t.kind == 9 && t.a == 1 && t.b == 1) {
            p.words = x.words;
            p.heads = x.heads;
            p.tails = x.tails;
            p.claim = x.claim;
        } else if (t.kind == 8) {
            Part a = alt(x, nothing());
            p.size = x.size + 1;
            p.words = a.words;
            p.heads = a.heads;
            p.tails = a.tails;
            p.claim = a.claim;
        } else if (t.kind == 7 || t.kind == 9 && t.a > 0) {
            p.heads = lx.heads;
            p.tails = lx.tails;
            p.claim = lx.claim;
        }
        return p;
    }

    /** Reads an alt by the grammar; where it can't go on it stops, and more than it read is left. */
    private static final class Reader {
        final List<Token> tokens;
        int next = 0;
        boolean large = false, broken = false;

        Reader(List<Token> tokens) { this.tokens = tokens; }

        private int kind() { return next < tokens.size() ? tokens.get(next).kind : -1; }

        private Part part(Part p) {
            if (p.size > 60) large = true;
            return p;
        }

        Part alt() {
            Part all = part(seq());
            while (kind() == 5) {
                next++;
                all = part(Model.alt(all, seq()));
            }
            return all;
        }

        private Part seq() {
            Part all = null;
            while (kind() >= 0 && kind() <= 3 || kind() >= 10) {
                Part i = item();
                all = all == null ? i : part(Model.seq(all, i));
            }
            return all == null ? nothing() : all;
        }

        private Part item() {
            Part i;
            if (kind() == 3) {
                next++;
                i = alt();
                if (kind() != 4) broken = true;
                next++;
            } else {
                i = leaf(tokens.get(next++));
            }
            part(i);
            while (kind() >= 6 && kind() <= 9) i = part(repeat(i, tokens.get(next++)));
            return i;
        }
    }

    private static boolean isAlt(List<Token> tokens) {
        Reader r = new Reader(tokens);
        r.alt();
        return !r.broken && r.next == tokens.size();
    }

    /** What begins an alt is one itself when its brackets are closed. */
    private static boolean beginsAlt(List<Token> tokens) {
        List<Token> closed = new ArrayList<>(tokens);
        for (int k = 0; k <= tokens.size(); k++) {
            if (isAlt(closed)) return true;
            closed.add(new Token(4, 0, 0));
        }
        return false;
    }

    private int wrongPlace() {
        for (int i = 0; i < tokens.size(); i++) {
            if (!beginsAlt(tokens.subList(0, i + 1))) return i;
        }
        return tokens.size();
    }

    int search() {
        found = new ArrayList<>();
        openedFiles = new TreeSet<>();
        blocks = 0;
        told = NONE;
        if (!isAlt(tokens)) {
            told = wrongPlace();
            return SYNTAX;
        }
        Reader r = new Reader(tokens);
        Part whole = r.alt();
        if (r.large) return LARGE;
        Predicate<Set<String>> claim = loosened(whole).claim;
        for (Map.Entry<Integer, String> e : files().entrySet()) {
            List<Hit> hits = matches(whole, e.getKey(), e.getValue());
            if (claim.test(trigrams(e.getValue()))) {
                openedFiles.add(e.getKey());
                blocks += (e.getValue().length() + 7) / 8;
                found.addAll(hits);
            } else if (!hits.isEmpty()) {
                throw new IllegalStateException("a match in a file that is not opened");
            }
        }
        return found.size();
    }

    private static List<Hit> matches(Part whole, int f, String text) {
        List<Hit> hits = new ArrayList<>();
        String[] lines = text.split("6", -1);
        for (int l = 0; l < lines.length; l++) {
            int p = 0;
            while (p <= lines[l].length()) {
                Set<Integer> ends = whole.ends(lines[l], p);
                if (ends.isEmpty()) {
                    p++;
                    continue;
                }
                int end = new TreeSet<>(ends).last();
                hits.add(new Hit(f, l, p, end));
                p = end == p ? p + 1 : end;
            }
        }
        return hits;
    }

    int place() {
        return told;
    }

    int hit(int k, int what) {
        if (k < 0 || k >= Math.min(40, found.size())) return NONE;
        Hit h = found.get(k);
        switch (what) {
            case 0: return h.file;
            case 1: return h.line;
            case 2: return h.begin;
            case 3: return h.end;
            default: return NONE;
        }
    }

    boolean opened(int f) {
        return openedFiles.contains(f);
    }

    int state(int what) {
        switch (what) {
            case 0: return waiting.size();
            case 1: return segments.size();
            case 2: return made;
            case 3: return files().size();
            case 4: return blocks;
            case 5: return draft.length();
            default: return NONE;
        }
    }
}
