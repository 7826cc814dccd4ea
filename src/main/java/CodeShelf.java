/**
 * A shelf of files that is searched by expressions. The promises that the methods keep are
 * numbered in the document DOC.md; README.md tells how to use the class.
 */
public final class CodeShelf {
    public static final int NONE = -1, REFUSED = -1, SYNTAX = -2, LARGE = -3;

    private static final int LETTERS = 6, LINE_ENDS = 6, CHARACTERS = 7;
    private static final int FILES = 10, TEXT = 40, MOST_WAITING = 6;
    private static final int TRIGRAMS = 512;

    // After a SYNC the segments have ever fewer documents, none has more than 10 (merged ones have
    // only LIVE documents, one for each file), and a SYNC brings at most 6: so there are never
    // more than 55 + 6 documents in 11 segments.
    private static final int MOST_DOCUMENTS = 64, MOST_SEGMENTS = 16;

    // All texts lie in slots of one array, so that one method can copy any of them to any place:
    // slots 0..9 are the files as they are now, then the files as they last, the texts of the
    // waiting changes, the draft, and the documents.
    private static final int LASTING = FILES;
    private static final int WAITING = LASTING + FILES;
    private static final int DRAFT = WAITING + MOST_WAITING;
    private static final int DOCUMENTS = DRAFT + 1;
    private static final int SLOTS = DOCUMENTS + MOST_DOCUMENTS;
    private static final int CHARS = SLOTS * TEXT;
    private static final int GONE = -1;

    private static final int MOST_TOKENS = 16, MOST_COUNT = 3, MOST_SIZE = 60;
    private static final int LETTER = 0, ANY = 1, CLASS = 2, OPEN = 3, CLOSE = 4, BAR = 5;
    private static final int STAR = 6, PLUS = 7, OPTION = 8, COUNT = 9, BEGIN = 10, END = 11;
    private static final int KINDS = 12, ALL_LETTERS = 63;

    // A node has the kind of its token (BAR for an alt, CLASS for LETTER and ANY too), or one of
    // these. Leaves and repeats are at most 17 with 16 tokens, and join by at most 16 nodes more.
    private static final int EMPTY = 12, SEQ = 13;
    private static final int MOST_NODES = 40, FRAMES = MOST_TOKENS + 1;

    // Each node has three sets of rows of letters. A row is its length above the lower 32 bits,
    // and there its letters, three bits each, the last one lowest.
    private static final int SETS = 3, HEADS = 1, TAILS = 2, MOST_ROWS = 8, LONGEST_WORD = 5;
    private static final int ALL_SETS = MOST_NODES * SETS, ALL_ROWS = ALL_SETS * MOST_ROWS;
    private static final int WHOLE = 0, FIRST_TWO = 1, LAST_TWO = 2;
    private static final int LETTER_BITS = 3, PAIR_MASK = 63, TRIGRAM_MASK = TRIGRAMS - 1;
    private static final int LENGTH_SHIFT = 32;
    private static final long LETTERS_MASK = (1L << LENGTH_SHIFT) - 1;
    private static final long EMPTY_ROW = 0;

    private static final int PLACES = TEXT + 1, ALL_REACHES = MOST_NODES * PLACES;
    private static final int MOST_HITS = 40, HIT = 4, ALL_HITS = MOST_HITS * HIT;
    private static final int BLOCK = 8, INT_BITS = 32;

    private final int[] chars = new int[CHARS];
    private final int[] textLength = new int[SLOTS];

    private final int[] waitingFile = new int[MOST_WAITING];
    private int waitingCount;

    // Segments are neighbouring parts of the row of documents, which is sorted by numbers.
    private final int[] documentNumber = new int[MOST_DOCUMENTS];
    private final int[] documentFile = new int[MOST_DOCUMENTS];
    private final boolean[] documentLive = new boolean[MOST_DOCUMENTS];
    private int documentCount;
    private int documentsMade;
    private final int[] segmentSize = new int[MOST_SEGMENTS];
    private int segmentCount;

    private final int[] tokenKind = new int[MOST_TOKENS];
    private final int[] tokenA = new int[MOST_TOKENS];
    private final int[] tokenB = new int[MOST_TOKENS];
    private int tokenCount;

    private final int[] nodeKind = new int[MOST_NODES];
    private final int[] nodeA = new int[MOST_NODES];
    private final int[] nodeB = new int[MOST_NODES];
    private final int[] nodeLeft = new int[MOST_NODES];
    private final int[] nodeRight = new int[MOST_NODES];
    private final int[] nodeSize = new int[MOST_NODES];
    private int nodeCount;

    // What has been read of each open bracket: its first seqs, the first items of the seq that
    // is being read, and the latest item, behind which * + ? COUNT may still come.
    private final int[] frameAlt = new int[FRAMES];
    private final int[] frameSeq = new int[FRAMES];
    private final int[] frameItem = new int[FRAMES];

    private final long[] rows = new long[ALL_ROWS];
    private final int[] rowCount = new int[ALL_SETS];
    private final boolean[] claim = new boolean[MOST_NODES];
    private final boolean[] had = new boolean[TRIGRAMS];

    // For each node and each place of a line, the places where its pieces from there may end.
    private final long[] reach = new long[ALL_REACHES];

    private final int[] hits = new int[ALL_HITS];
    private int matchCount;
    private final boolean[] wasOpened = new boolean[FILES];
    private int blocksRead;
    private int wrongToken;

    public CodeShelf() {
        for (int slot = 0; slot < SLOTS; slot++) {
            textLength[slot] = GONE;
        }
        textLength[DRAFT] = 0;
        wrongToken = NONE;
    }

    public int type(int c) {
        int length = textLength[DRAFT];
        if (c < 0 || c >= CHARACTERS || length >= TEXT) {
            return REFUSED;
        }
        chars[DRAFT * TEXT + length] = c;
        textLength[DRAFT] = length + 1;
        return length + 1;
    }

    public int keep(int f) {
        if (!isFile(f)) {
            return REFUSED;
        }
        makeRoomForChange();
        copyText(f, DRAFT);
        textLength[DRAFT] = 0;
        return addChange(f);
    }

    public int remove(int f) {
        if (!isThere(f)) {
            return REFUSED;
        }
        makeRoomForChange();
        textLength[f] = GONE;
        return addChange(f);
    }

    public int sync() {
        syncChanges();
        return segmentCount;
    }

    public int crash(int n) {
        if (n < 0) {
            return REFUSED;
        }
        if (n >= waitingCount) {
            return 0;
        }
        int lost = waitingCount - n;
        for (int f = 0; f < FILES; f++) {
            copyText(f, LASTING + f);
        }
        for (int i = 0; i < n; i++) {
            copyText(waitingFile[i], WAITING + i);
        }
        waitingCount = n;
        return lost;
    }

    public int settle() {
        syncChanges();
        gatherSegments(0);
        return documentCount;
    }

    public int file(int f, int what) {
        if (!isFile(f)) {
            return NONE;
        }
        if (what == 3) {
            return liveNumber(f);
        }
        if (!isThere(f)) {
            return NONE;
        }
        switch (what) {
            case 0: return textLength[f];
            case 1: return countLines(f);
            case 2: return markTrigrams(f);
            default: return NONE;
        }
    }

    public int at(int f, int i) {
        if (!isFile(f) || i < 0 || i >= textLength[f]) {
            return NONE;
        }
        return chars[f * TEXT + i];
    }

    public int having(int a, int b, int c) {
        if (!isLetter(a) || !isLetter(b) || !isLetter(c)) {
            return REFUSED;
        }
        int trigram = trigramOf(a, b, c);
        int files = 0;
        for (int f = 0; f < FILES; f++) {
            if (hasTrigram(f, trigram)) {
                files++;
            }
        }
        return files;
    }

    public int segment(int k, int what) {
        if (k < 0 || k >= segmentCount) {
            return NONE;
        }
        int start = segmentStart(k);
        int end = start + segmentSize[k];
        switch (what) {
            case 0: return segmentSize[k];
            case 1: return countLive(start, end);
            case 2: return countLists(start, end);
            case 3: return countBits(start, end);
            case 4: return documentNumber[start];
            default: return NONE;
        }
    }

    public int document(int j, int what) {
        if (j < 0 || j >= documentCount) {
            return NONE;
        }
        switch (what) {
            case 0: return documentNumber[j];
            case 1: return documentFile[j];
            case 2: return documentLive[j] ? 1 : 0;
            case 3: return segmentOf(j);
            default: return NONE;
        }
    }

    public int token(int kind, int a, int b) {
        if (tokenCount >= MOST_TOKENS || !isToken(kind, a, b)) {
            return REFUSED;
        }
        tokenKind[tokenCount] = kind;
        tokenA[tokenCount] = a;
        tokenB[tokenCount] = b;
        tokenCount++;
        return tokenCount;
    }

    public int wipe() {
        int tokens = tokenCount;
        tokenCount = 0;
        return tokens;
    }

    public int search() {
        forgetFound();
        wrongToken = findWrongToken();
        if (wrongToken != NONE) {
            return SYNTAX;
        }
        int root = parse();
        if (isLarge()) {
            return LARGE;
        }
        for (int n = 0; n < nodeCount; n++) {
            learn(n);
        }
        for (int f = 0; f < FILES; f++) {
            if (isThere(f) && claimHolds(f, root)) {
                wasOpened[f] = true;
                blocksRead += (textLength[f] + BLOCK - 1) / BLOCK;
                searchFile(f, root);
            }
        }
        return matchCount;
    }

    public int place() {
        return wrongToken;
    }

    public int hit(int k, int what) {
        if (k < 0 || k >= MOST_HITS || k >= matchCount || what < 0 || what >= HIT) {
            return NONE;
        }
        return hits[k * HIT + what];
    }

    public boolean opened(int f) {
        return isFile(f) && wasOpened[f];
    }

    public int state(int what) {
        switch (what) {
            case 0: return waitingCount;
            case 1: return segmentCount;
            case 2: return documentsMade;
            case 3: return countFiles();
            case 4: return blocksRead;
            case 5: return textLength[DRAFT];
            default: return NONE;
        }
    }

    // ---- files and texts

    private static boolean isFile(int f) {
        return f >= 0 && f < FILES;
    }

    private static boolean isLetter(int c) {
        return c >= 0 && c < LETTERS;
    }

    private boolean isThere(int f) {
        return isFile(f) && textLength[f] != GONE;
    }

    private int countFiles() {
        int files = 0;
        for (int f = 0; f < FILES; f++) {
            if (isThere(f)) {
                files++;
            }
        }
        return files;
    }

    private void copyText(int to, int from) {
        int length = textLength[from];
        textLength[to] = length;
        for (int i = 0; i < length; i++) {
            chars[to * TEXT + i] = chars[from * TEXT + i];
        }
    }

    private int countLines(int slot) {
        int lines = 1;
        for (int i = 0; i < textLength[slot]; i++) {
            if (chars[slot * TEXT + i] == LINE_ENDS) {
                lines++;
            }
        }
        return lines;
    }

    private static int trigramOf(int a, int b, int c) {
        return (a << (2 * LETTER_BITS)) + (b << LETTER_BITS) + c;
    }

    /** The trigram at place i, behind which the text has two characters more, or NONE. */
    private int trigramAt(int slot, int i) {
        int base = slot * TEXT + i;
        int a = chars[base];
        int b = chars[base + 1];
        int c = chars[base + 2];
        if (!isLetter(a) || !isLetter(b) || !isLetter(c)) {
            return NONE;
        }
        return trigramOf(a, b, c);
    }

    private boolean hasTrigram(int slot, int trigram) {
        for (int i = 0; i + 2 < textLength[slot]; i++) {
            if (trigramAt(slot, i) == trigram) {
                return true;
            }
        }
        return false;
    }

    /** Marks the trigrams that a text has, and answers how many different ones they are. */
    private int markTrigrams(int slot) {
        for (int t = 0; t < TRIGRAMS; t++) {
            had[t] = false;
        }
        int different = 0;
        for (int i = 0; i + 2 < textLength[slot]; i++) {
            int trigram = trigramAt(slot, i);
            if (trigram != NONE && !had[trigram]) {
                had[trigram] = true;
                different++;
            }
        }
        return different;
    }

    // ---- changes

    private void makeRoomForChange() {
        if (waitingCount >= MOST_WAITING) {
            syncChanges();
        }
    }

    /** Notes that a file has become what it is now. */
    private int addChange(int f) {
        waitingFile[waitingCount] = f;
        copyText(WAITING + waitingCount, f);
        waitingCount++;
        return waitingCount;
    }

    private boolean isChanged(int f) {
        for (int i = 0; i < waitingCount; i++) {
            if (waitingFile[i] == f) {
                return true;
            }
        }
        return false;
    }

    private void syncChanges() {
        for (int d = 0; d < documentCount; d++) {
            if (isChanged(documentFile[d])) {
                documentLive[d] = false;
            }
        }
        int before = documentCount;
        for (int f = 0; f < FILES; f++) {
            if (isChanged(f)) {
                copyText(LASTING + f, f);
                makeDocument(f);
            }
        }
        waitingCount = 0;
        if (documentCount > before && segmentCount < MOST_SEGMENTS) {
            segmentSize[segmentCount] = documentCount - before;
            segmentCount++;
        }
        for (int merges = 0; merges < MOST_SEGMENTS && isMergeDue(); merges++) {
            gatherSegments(segmentCount - 2);
        }
    }

    // ---- documents and segments

    private void makeDocument(int f) {
        if (!isThere(f) || documentCount >= MOST_DOCUMENTS) {
            return;
        }
        documentNumber[documentCount] = documentsMade;
        documentFile[documentCount] = f;
        documentLive[documentCount] = true;
        copyText(DOCUMENTS + documentCount, f);
        documentCount++;
        documentsMade++;
    }

    private boolean isMergeDue() {
        return segmentCount >= 2 && segmentSize[segmentCount - 1] >= segmentSize[segmentCount - 2];
    }

    /** Makes the segments from the first one on into one of their LIVE documents. */
    private void gatherSegments(int first) {
        int start = segmentStart(first);
        int to = start;
        for (int from = start; from < documentCount; from++) {
            if (documentLive[from]) {
                documentNumber[to] = documentNumber[from];
                documentFile[to] = documentFile[from];
                documentLive[to] = true;
                copyText(DOCUMENTS + to, DOCUMENTS + from);
                to++;
            }
        }
        documentCount = to;
        segmentCount = first;
        if (to > start) {
            segmentSize[first] = to - start;
            segmentCount++;
        }
    }

    private int segmentStart(int k) {
        int start = 0;
        for (int i = 0; i < k; i++) {
            start += segmentSize[i];
        }
        return start;
    }

    private int segmentOf(int j) {
        int end = 0;
        for (int k = 0; k < segmentCount; k++) {
            end += segmentSize[k];
            if (j < end) {
                return k;
            }
        }
        return NONE;
    }

    private int liveNumber(int f) {
        for (int d = 0; d < documentCount; d++) {
            if (documentLive[d] && documentFile[d] == f) {
                return documentNumber[d];
            }
        }
        return NONE;
    }

    private int countLive(int start, int end) {
        int live = 0;
        for (int d = start; d < end; d++) {
            if (documentLive[d]) {
                live++;
            }
        }
        return live;
    }

    private int countLists(int start, int end) {
        int lists = 0;
        for (int t = 0; t < TRIGRAMS; t++) {
            if (listBits(start, end, t) > 0) {
                lists++;
            }
        }
        return lists;
    }

    private int countBits(int start, int end) {
        int bits = 0;
        for (int t = 0; t < TRIGRAMS; t++) {
            bits += listBits(start, end, t);
        }
        return bits;
    }

    /** How many BITS the LIST of a trigram takes; 0 if there is no such LIST. */
    private int listBits(int start, int end, int trigram) {
        int bits = 0;
        int previous = -1; // so that the first difference is n1 + 1
        for (int d = start; d < end; d++) {
            if (hasTrigram(DOCUMENTS + d, trigram)) {
                bits += codeBits(documentNumber[d] - previous);
                previous = documentNumber[d];
            }
        }
        return bits;
    }

    private static int codeBits(int difference) {
        int bits = 1;
        for (int g = 1; g < INT_BITS; g++) {
            if (difference >> g > 0) {
                bits += 2;
            }
        }
        return bits;
    }

    // ---- reading the expression

    private static boolean isInClass(int members, int letter) {
        return ((members >> letter) & 1) == 1;
    }

    private static boolean isToken(int kind, int a, int b) {
        switch (kind) {
            case LETTER: return isLetter(a);
            case CLASS: return a >= 1 && a <= ALL_LETTERS;
            case COUNT: return 0 <= a && a <= b && b <= MOST_COUNT;
            default: return kind >= 0 && kind < KINDS;
        }
    }

    private static boolean isRepeat(int kind) {
        return kind == STAR || kind == PLUS || kind == OPTION || kind == COUNT;
    }

    /** The place that a search tells with SYNTAX; NONE if the expression is an alt. */
    private int findWrongToken() {
        int depth = 0;
        boolean behindItem = false;
        for (int t = 0; t < tokenCount; t++) {
            int kind = tokenKind[t];
            if ((isRepeat(kind) && !behindItem) || (kind == CLOSE && depth == 0)) {
                return t;
            }
            if (kind == OPEN) {
                depth++;
            } else if (kind == CLOSE) {
                depth--;
            }
            behindItem = kind != OPEN && kind != BAR;
        }
        return depth > 0 ? tokenCount : NONE;
    }

    /** Makes nodes of an expression that is an alt, parts before wholes; answers that of it all. */
    private int parse() {
        nodeCount = 0;
        int depth = 0;
        openFrame(depth);
        for (int t = 0; t < tokenCount; t++) {
            int kind = tokenKind[t];
            if (kind == OPEN) {
                depth++;
                openFrame(depth);
            } else if (kind == CLOSE && depth > 0) {
                endSeq(depth);
                depth--;
                takeItem(depth, frameAlt[depth + 1]);
            } else if (kind == BAR) {
                endSeq(depth);
            } else if (isRepeat(kind)) {
                frameItem[depth] = addRepeat(t, frameItem[depth]);
            } else {
                int leaf = addLeaf(t);
                takeItem(depth, leaf);
            }
        }
        endSeq(depth);
        return frameAlt[depth];
    }

    private void openFrame(int depth) {
        frameAlt[depth] = NONE;
        frameSeq[depth] = NONE;
        frameItem[depth] = NONE;
    }

    /** Puts the latest item, which is whole now, to the seq, and sets the next one (or NONE). */
    private void takeItem(int depth, int next) {
        int item = frameItem[depth];
        int seq = frameSeq[depth];
        if (item != NONE) {
            frameSeq[depth] = seq == NONE ? item : addNode(SEQ, 0, 0, seq, item);
        }
        frameItem[depth] = next;
    }

    private void endSeq(int depth) {
        takeItem(depth, NONE);
        int seq = frameSeq[depth];
        if (seq == NONE) {
            seq = addNode(EMPTY, 0, 0, 0, 0);
        }
        int alt = frameAlt[depth];
        frameAlt[depth] = alt == NONE ? seq : addNode(BAR, 0, 0, alt, seq);
        frameSeq[depth] = NONE;
    }

    private int addLeaf(int t) {
        switch (tokenKind[t]) {
            case LETTER: return addNode(CLASS, 1 << tokenA[t], 0, 0, 0);
            case ANY: return addNode(CLASS, ALL_LETTERS, 0, 0, 0);
            case CLASS: return addNode(CLASS, tokenA[t], 0, 0, 0);
            default: return addNode(tokenKind[t], 0, 0, 0, 0);
        }
    }

    /** COUNT 1 1 is its item and COUNT 0 0 the empty seq, in SIZE and WORDS and what they match. */
    private int addRepeat(int t, int item) {
        int kind = tokenKind[t];
        int a = tokenA[t];
        int b = tokenB[t];
        if (kind == OPTION) {
            int nothing = addNode(EMPTY, 0, 0, 0, 0);
            return addNode(OPTION, 0, 0, item, nothing);
        }
        if (kind == COUNT && b == 0) {
            return addNode(EMPTY, 0, 0, 0, 0);
        }
        if (kind == COUNT && a == 1 && b == 1) {
            return item;
        }
        return addNode(kind, a, b, item, 0);
    }

    private int addNode(int kind, int a, int b, int left, int right) {
        int n = nodeCount;
        if (n >= MOST_NODES) {
            return 0;
        }
        nodeKind[n] = kind;
        nodeA[n] = a;
        nodeB[n] = b;
        nodeLeft[n] = left;
        nodeRight[n] = right;
        nodeCount = n + 1;
        return n;
    }

    private boolean isLarge() {
        for (int n = 0; n < nodeCount; n++) {
            nodeSize[n] = sizeOf(n);
            if (nodeSize[n] > MOST_SIZE) {
                return true;
            }
        }
        return false;
    }

    private int sizeOf(int n) {
        int left = nodeSize[nodeLeft[n]];
        int right = nodeSize[nodeRight[n]];
        switch (nodeKind[n]) {
            case EMPTY: return 0;
            case SEQ: return left + right;
            case BAR: return left + right + 2;
            case STAR: return left + 2;
            case PLUS: case OPTION: return left + 1;
            case COUNT: return nodeB[n] * left + nodeB[n] - nodeA[n];
            default: return 1;
        }
    }

    // ---- what a text must have

    /** Finds WORDS of a part, if they are known (else none), and its HEADS and TAILS LOOSENED. */
    private void learn(int n) {
        int words = n * SETS;
        rowCount[words] = 0;
        rowCount[words + HEADS] = 0;
        rowCount[words + TAILS] = 0;
        switch (nodeKind[n]) {
            case CLASS: learnClass(n); break;
            case EMPTY: case BEGIN: case END: addRow(words, EMPTY_ROW); break;
            case PLUS: case COUNT: learnRepeat(n); break;
            case BAR: case OPTION: learnAlt(n); break;
            case SEQ: learnSeq(n); break;
            default: break;
        }
        if (rowCount[words] > 0) {
            addRows(words + HEADS, words, FIRST_TWO);
            addRows(words + TAILS, words, LAST_TWO);
        }
        limitEnds(words + HEADS);
        limitEnds(words + TAILS);
    }

    private void learnClass(int n) {
        int letters = 0;
        for (int l = 0; l < LETTERS; l++) {
            letters += isInClass(nodeA[n], l) ? 1 : 0;
        }
        for (int l = 0; l < LETTERS && letters <= 3; l++) {
            if (isInClass(nodeA[n], l)) {
                addRow(n * SETS, (1L << LENGTH_SHIFT) + l);
            }
        }
    }

    private void learnRepeat(int n) {
        int item = nodeLeft[n] * SETS;
        if (nodeKind[n] == PLUS || nodeA[n] > 0) {
            addRows(n * SETS + HEADS, item + HEADS, WHOLE);
            addRows(n * SETS + TAILS, item + TAILS, WHOLE);
        }
    }

    private void learnAlt(int n) {
        int words = n * SETS;
        int x = nodeLeft[n] * SETS;
        int y = nodeRight[n] * SETS;
        if (rowCount[x] > 0 && rowCount[y] > 0) {
            addRows(words, x, WHOLE);
            addRows(words, y, WHOLE);
            dropTooMany(words);
        }
        if (rowCount[words] == 0) {
            addRows(words + HEADS, x + HEADS, WHOLE);
            addRows(words + HEADS, y + HEADS, WHOLE);
            addRows(words + TAILS, x + TAILS, WHOLE);
            addRows(words + TAILS, y + TAILS, WHOLE);
        }
    }

    private void learnSeq(int n) {
        int words = n * SETS;
        int x = nodeLeft[n] * SETS;
        int y = nodeRight[n] * SETS;
        if (rowCount[x] > 0 && rowCount[y] > 0) {
            addJoined(words, x, y, WHOLE);
            dropTooMany(words);
        }
        if (rowCount[words] > 0) {
            return;
        }
        if (rowCount[x] > 0) {
            addJoined(words + HEADS, x, y + HEADS, FIRST_TWO);
        } else {
            addRows(words + HEADS, x + HEADS, WHOLE);
        }
        if (rowCount[y] > 0) {
            addJoined(words + TAILS, x + TAILS, y, LAST_TWO);
        } else {
            addRows(words + TAILS, y + TAILS, WHOLE);
        }
    }

    private void dropTooMany(int words) {
        if (rowCount[words] > MOST_ROWS) {
            rowCount[words] = 0;
        }
    }

    /** Parts that tell nothing about an end have added no row to it: that too is the empty row. */
    private void limitEnds(int ends) {
        if (rowCount[ends] == 0 || rowCount[ends] > MOST_ROWS) {
            rowCount[ends] = 0;
            addRow(ends, EMPTY_ROW);
        }
    }

    /** A set that would get more than MOST_ROWS only counts one more, and stays so. */
    private void addRow(int set, long row) {
        int count = rowCount[set];
        if (count > MOST_ROWS) {
            return;
        }
        for (int k = 0; k < count; k++) {
            if (rows[set * MOST_ROWS + k] == row) {
                return;
            }
        }
        if (count < MOST_ROWS) {
            rows[set * MOST_ROWS + count] = row;
        }
        rowCount[set] = count + 1;
    }

    private void addRows(int set, int from, int cut) {
        int count = rowCount[from];
        for (int k = 0; k < count; k++) {
            long row = cutRow(rows[from * MOST_ROWS + k], cut);
            addRow(set, row);
        }
    }

    /** Only WORDS are joined whole: one that is too long is as bad as too many. */
    private void addJoined(int set, int x, int y, int cut) {
        int countX = rowCount[x];
        int countY = rowCount[y];
        for (int i = 0; i < countX; i++) {
            for (int j = 0; j < countY; j++) {
                long whole = joinRows(rows[x * MOST_ROWS + i], rows[y * MOST_ROWS + j]);
                if (cut == WHOLE && whole >> LENGTH_SHIFT > LONGEST_WORD) {
                    rowCount[set] = MOST_ROWS + 1;
                }
                long row = cutRow(whole, cut);
                addRow(set, row);
            }
        }
    }

    private static long joinRows(long x, long y) {
        long lengthX = x >> LENGTH_SHIFT;
        long lengthY = y >> LENGTH_SHIFT;
        long letters = ((x & LETTERS_MASK) << (LETTER_BITS * lengthY)) + (y & LETTERS_MASK);
        return ((lengthX + lengthY) << LENGTH_SHIFT) + letters;
    }

    private static long cutRow(long row, int cut) {
        long length = row >> LENGTH_SHIFT;
        long letters = row & LETTERS_MASK;
        if (cut == WHOLE || length <= 2) {
            return row;
        }
        long two = cut == FIRST_TWO ? letters >> (LETTER_BITS * (length - 2)) : letters & PAIR_MASK;
        return (2L << LENGTH_SHIFT) + two;
    }

    private boolean claimHolds(int f, int root) {
        markTrigrams(f);
        for (int n = 0; n < nodeCount; n++) {
            claim[n] = claimOf(n);
        }
        return claim[root];
    }

    /** The CLAIM of a part LOOSENED, of the text whose trigrams are marked. */
    private boolean claimOf(int n) {
        int left = nodeLeft[n];
        int right = nodeRight[n];
        if (rowCount[n * SETS] > 0) {
            return someOf(n * SETS);
        }
        switch (nodeKind[n]) {
            case BAR: case OPTION: return claim[left] || claim[right];
            case SEQ: return claim[left] && claim[right] && someAcross(left, right);
            case PLUS: return claim[left];
            case COUNT: return nodeA[n] == 0 || claim[left];
            default: return true;
        }
    }

    private boolean someOf(int set) {
        for (int k = 0; k < rowCount[set]; k++) {
            if (isHad(rows[set * MOST_ROWS + k])) {
                return true;
            }
        }
        return false;
    }

    /** SOME of the rows of one of the left part's TAILS and one of the right part's HEADS. */
    private boolean someAcross(int left, int right) {
        int tails = left * SETS + TAILS;
        int heads = right * SETS + HEADS;
        for (int i = 0; i < rowCount[tails]; i++) {
            for (int j = 0; j < rowCount[heads]; j++) {
                long row = joinRows(rows[tails * MOST_ROWS + i], rows[heads * MOST_ROWS + j]);
                if (isHad(row)) {
                    return true;
                }
            }
        }
        return false;
    }

    /** True also of a row of less than three letters, which has no trigrams. */
    private boolean isHad(long row) {
        int length = (int) (row >> LENGTH_SHIFT);
        int letters = (int) (row & LETTERS_MASK);
        for (int behind = 0; behind + 3 <= length; behind++) {
            if (!had[(letters >> (LETTER_BITS * behind)) & TRIGRAM_MASK]) {
                return false;
            }
        }
        return true;
    }

    // ---- matches

    private void forgetFound() {
        matchCount = 0;
        blocksRead = 0;
        for (int f = 0; f < FILES; f++) {
            wasOpened[f] = false;
        }
    }

    private void searchFile(int f, int root) {
        int length = textLength[f];
        int line = 0;
        int begin = 0;
        for (int i = 0; i <= length; i++) {
            if (i == length || chars[f * TEXT + i] == LINE_ENDS) {
                findPieces(f * TEXT + begin, i - begin);
                addMatches(f, line, i - begin, root);
                line++;
                begin = i + 1;
            }
        }
    }

    /** From the last place back, since a repeat goes on from the places behind. */
    private void findPieces(int from, int length) {
        for (int n = 0; n < nodeCount; n++) {
            for (int i = length; i >= 0; i--) {
                reach[n * PLACES + i] = endsFrom(n, i, from, length);
            }
        }
    }

    /** Where the pieces that begin at place i of a line and that a part matches end, as bits. */
    private long endsFrom(int n, int i, int from, int length) {
        long here = 1L << i;
        int left = nodeLeft[n];
        int right = nodeRight[n];
        long ends = reach[left * PLACES + i];
        switch (nodeKind[n]) {
            case CLASS: return i < length && isInClass(nodeA[n], chars[from + i]) ? here << 1 : 0;
            case EMPTY: return here;
            case BEGIN: return i == 0 ? here : 0;
            case END: return i == length ? here : 0;
            case BAR: case OPTION: return ends | reach[right * PLACES + i];
            case SEQ: return goOn(ends, right);
            case STAR: return here | goOn(ends & ~here, n);
            case PLUS: return ends | goOn(ends & ~here, n);
            default: return countedEnds(n, here);
        }
    }

    private long countedEnds(int n, long here) {
        long ends = here;
        long all = nodeA[n] == 0 ? here : 0;
        for (int k = 1; k <= nodeB[n]; k++) {
            ends = goOn(ends, nodeLeft[n]);
            if (k >= nodeA[n]) {
                all |= ends;
            }
        }
        return all;
    }

    /** Where pieces of a part end that begin at one of some places. */
    private long goOn(long places, int n) {
        long ends = 0;
        for (int i = 0; i < PLACES; i++) {
            if (((places >> i) & 1) == 1) {
                ends |= reach[n * PLACES + i];
            }
        }
        return ends;
    }

    private void addMatches(int f, int line, int length, int root) {
        int next = 0;
        for (int i = 0; i <= length; i++) {
            long ends = reach[root * PLACES + i];
            if (i >= next && ends != 0) {
                int end = lastPlace(ends);
                addHit(f, line, i, end);
                next = end > i ? end : i + 1;
            }
        }
    }

    private static int lastPlace(long places) {
        int last = 0;
        for (int i = 0; i < PLACES; i++) {
            if (((places >> i) & 1) == 1) {
                last = i;
            }
        }
        return last;
    }

    private void addHit(int f, int line, int begin, int end) {
        if (matchCount < MOST_HITS) {
            hits[matchCount * HIT] = f;
            hits[matchCount * HIT + 1] = line;
            hits[matchCount * HIT + 2] = begin;
            hits[matchCount * HIT + 3] = end;
        }
        matchCount++;
    }
}
