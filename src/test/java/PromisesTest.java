/**
 * One method for each promise of the document: ordinary inputs, the edges that it names, and
 * wrong inputs, with the answers written down by hand from its words.
 */
public final class PromisesTest extends Asking {
    public static void main(String[] args) {
        constants();
        promise1();
        promise2();
        promise3();
        promise4();
        promise5();
        promise5Merges();
        promise6();
        promise7();
        promise8();
        promise9();
        promise10();
        promise11();
        promise11FullShelf();
        promise12();
        promise13();
        promise14();
        promise15Matches();
        promise15Repeats();
        promise15Sizes();
        promise15Opens();
        promise15OpensBySequences();
        promise15OpensByRepeats();
        promise15OpensByManyRows();
        promise16();
        promise17();
        promise18();
        promise19();
        CHECK.end("PromisesTest");
    }

    // ---- the promises

    private static void constants() {
        due("NONE", CodeShelf.NONE, NONE);
        due("REFUSED", CodeShelf.REFUSED, REFUSED);
        due("SYNTAX", CodeShelf.SYNTAX, SYNTAX);
        due("LARGE", CodeShelf.LARGE, LARGE);
    }

    private static void promise1() {
        CodeShelf x = new CodeShelf();
        for (int what = 0; what <= 5; what++) due("new state(" + what + ")", x.state(what), 0);
        for (int f = 0; f < 10; f++) {
            for (int what = 0; what <= 4; what++) due("new file", x.file(f, what), NONE);
            CHECK.due("new opened", x.opened(f), false);
            due("new at", x.at(f, 0), NONE);
        }
        due("new having", x.having(0, 0, 0), 0);
        due("new segment", x.segment(0, 0), NONE);
        due("new document", x.document(0, 0), NONE);
        due("new hit", x.hit(0, 0), NONE);
        due("new place", x.place(), NONE);
        due("new wipe", x.wipe(), 0);
        due("new search", x.search(), 0);
        due("new place", x.place(), NONE);
        due("new crash", x.crash(0), 0);
        due("new sync", x.sync(), 0);
        due("new settle", x.settle(), 0);
        CodeShelf y = new CodeShelf();
        x.type(3);
        due("objects are apart", y.state(5), 0);
    }

    private static void promise2() {
        CodeShelf x = new CodeShelf();
        for (int c : new int[] {-1, 7, LOW, HIGH}) due("type(" + c + ")", x.type(c), REFUSED);
        due("length after refused ones", x.state(5), 0);
        for (int i = 0; i < 40; i++) due("type", x.type(i % 7), i + 1);
        due("type with 40", x.type(0), REFUSED);
        due("type with 40", x.type(7), REFUSED);
        due("length of 40", x.state(5), 40);
        x.keep(0);
        for (int i = 0; i < 40; i++) due("at(0, " + i + ")", x.at(0, i), i % 7);
        due("type into the empty draft", x.type(6), 1);
    }

    private static void promise3() {
        CodeShelf x = new CodeShelf();
        draft(x, "012");
        for (int f : new int[] {-1, 10, LOW, HIGH}) due("keep(" + f + ")", x.keep(f), REFUSED);
        due("the draft of a refused keep", x.state(5), 3);
        due("keep(0)", x.keep(0), 1);
        due("the draft after keep", x.state(5), 0);
        due("file(0, 0)", x.file(0, 0), 3);
        due("keep of an empty draft", x.keep(9), 2);
        due("file(9, 0)", x.file(9, 0), 0);
        due("keep again", put(x, 0, "5"), 3);
        due("file(0, 0)", x.file(0, 0), 1);
        due("at(0, 0)", x.at(0, 0), 5);
        for (int n = 4; n <= 6; n++) due("keep", put(x, 1, "11"), n);
        due("a refused keep makes no SYNC", x.keep(10), REFUSED);
        due("still waiting", x.state(0), 6);
        due("none made", x.state(2), 0);
        due("the seventh", put(x, 2, "22"), 1);
        due("made before the seventh", x.state(2), 3);
        due("no document of the seventh", x.file(2, 3), NONE);
        due("the seventh is there", x.file(2, 0), 2);
    }

    private static void promise4() {
        CodeShelf x = new CodeShelf();
        for (int f : new int[] {0, 9, -1, 10, LOW, HIGH}) due("remove(" + f + ")", x.remove(f), REFUSED);
        put(x, 4, "0123");
        due("remove(4)", x.remove(4), 2);
        due("remove again", x.remove(4), REFUSED);
        due("file gone", x.file(4, 0), NONE);
        due("keep anew", put(x, 4, "1"), 3);
        due("remove anew", x.remove(4), 4);
        due("keep", put(x, 5, "111"), 5);
        due("keep", put(x, 6, "222"), 6);
        due("refused without a SYNC", x.remove(4), REFUSED);
        due("none made", x.state(2), 0);
        due("a seventh by remove", x.remove(5), 1);
        due("made before it, with file 5", x.state(2), 2);
        due("the document of file 5", x.file(5, 3), 0);
        due("file 5 is gone", x.file(5, 0), NONE);
        due("sync", x.sync(), 1);
        due("its document is live no more", x.file(5, 3), NONE);
        due("it lies there", x.segment(0, 0), 2);
        due("one live", x.segment(0, 1), 1);
    }

    private static void promise5() {
        CodeShelf x = new CodeShelf();
        due("sync of nothing", x.sync(), 0);
        put(x, 8, "000");
        x.remove(8);
        due("sync of a file that is gone", x.sync(), 0);
        due("none made", x.state(2), 0);
        put(x, 7, "1");
        put(x, 2, "2");
        put(x, 7, "3");
        put(x, 5, "4");
        due("sync", x.sync(), 1);
        due("none waits", x.state(0), 0);
        due("three made", x.state(2), 3);
        due("by files: 2", x.file(2, 3), 0);
        due("by files: 5", x.file(5, 3), 1);
        due("by files: 7", x.file(7, 3), 2);
        due("sync again", x.sync(), 1);
        due("nothing more", x.state(2), 3);
        put(x, 5, "4");
        due("the same text is a change too", x.sync(), 2);
        due("its new document", x.file(5, 3), 3);
        due("the old one is there, not live", x.document(1, 2), 0);
        due("others stay live", x.document(0, 2), 1);
        x.remove(2);
        due("only a removal", x.sync(), 2);
        due("no document for it", x.state(2), 4);
        due("dead now", x.document(0, 2), 0);
        due("crash can't undo what lasts", x.crash(0), 0);
        due("still gone", x.file(2, 0), NONE);
        due("still there", x.at(5, 0), 4);
    }

    private static void promise5Merges() {
        CodeShelf x = new CodeShelf();
        for (int f = 0; f < 6; f++) put(x, f, "0");
        due("6", x.sync(), 1);
        for (int f = 6; f < 9; f++) put(x, f, "1");
        due("6 3", x.sync(), 2);
        put(x, 9, "2");
        x.keep(0);
        due("6 3 2", x.sync(), 3);
        put(x, 9, "3");
        due("6 3 2 1: the dead count", x.sync(), 4);
        due("two in segment 2", x.segment(2, 0), 2);
        due("one live in segment 2", x.segment(2, 1), 1);
        put(x, 6, "4");
        put(x, 7, "4");
        due("one below two: 1 and 2 are 3, with 2 they have 4 live, with 3 they have 5",
            x.sync(), 2);
        due("6", x.segment(0, 0), 6);
        due("5: files 8, 0, 9, 6, 7", x.segment(1, 0), 5);
        due("all live", x.segment(1, 1), 5);
        int[] number = {0, 1, 2, 3, 4, 5, 8, 9, 11, 12, 13};
        int[] file = {0, 1, 2, 3, 4, 5, 8, 0, 9, 6, 7};
        for (int j = 0; j < 11; j++) {
            due("number of " + j, x.document(j, 0), number[j]);
            due("file of " + j, x.document(j, 1), file[j]);
        }
        due("no more", x.document(11, 0), NONE);
        due("14 made", x.state(2), 14);
        CodeShelf y = new CodeShelf();
        put(y, 0, "0");
        y.sync();
        put(y, 0, "1");
        due("one and one, equal: merged", y.sync(), 1);
        due("the live one alone", y.segment(0, 0), 1);
        due("its number", y.segment(0, 4), 1);
    }

    private static void promise6() {
        CodeShelf x = new CodeShelf();
        due("crash with none", x.crash(5), 0);
        due("crash(-1)", x.crash(-1), REFUSED);
        due("crash(LOW)", x.crash(LOW), REFUSED);
        put(x, 0, "000");
        put(x, 1, "111");
        x.sync();
        put(x, 0, "22");
        x.remove(1);
        put(x, 0, "3333");
        put(x, 1, "4");
        put(x, 2, "5");
        draft(x, "01");
        search(x, "0|1");
        due("crash(9)", x.crash(9), 0);
        due("crash(5)", x.crash(5), 0);
        due("crash(HIGH)", x.crash(HIGH), 0);
        due("crash(-1) loses none", x.crash(-1), REFUSED);
        due("five wait", x.state(0), 5);
        due("crash(4)", x.crash(4), 1);
        due("file 2 was never there", x.file(2, 0), NONE);
        due("file 1", x.file(1, 0), 1);
        due("crash(2)", x.crash(2), 2);
        due("two wait", x.state(0), 2);
        due("file 0 as by the first", x.file(0, 0), 2);
        due("its character", x.at(0, 1), 2);
        due("file 1 as by the second", x.file(1, 0), NONE);
        due("its document", x.file(1, 3), 1);
        due("crash(0)", x.crash(0), 2);
        due("file 0 as it lasts", x.at(0, 2), 0);
        due("file 1 as it lasts", x.at(1, 2), 1);
        due("the draft stays", x.state(5), 2);
        due("the expression stays", x.wipe(), 3);
        CHECK.due("what was found stays", x.opened(2), true);
        CodeShelf y = new CodeShelf();
        for (int f = 0; f < 7; f++) put(y, f, "00" + (f % 6));
        due("the SYNC before a lost seventh", y.crash(0), 1);
        due("stays: six made", y.state(2), 6);
        due("six files", y.state(3), 6);
        due("segments", y.state(1), 1);
        put(y, 9, "1");
        y.crash(0);
        due("lost ones make no document", y.sync(), 1);
        due("six made", y.state(2), 6);
        put(y, 8, "1");
        put(y, 9, "2");
        y.crash(1);
        due("changes go on behind the first", put(y, 9, "33"), 2);
        y.sync();
        due("the later one lasts", y.file(9, 0), 2);
        due("number by files", y.file(9, 3), 7);
    }

    private static void promise7() {
        CodeShelf x = new CodeShelf();
        due("settle of nothing", x.settle(), 0);
        for (int f = 0; f < 4; f++) put(x, f, "012");
        due("settle syncs", x.settle(), 4);
        due("none waits", x.state(0), 0);
        put(x, 1, "1");
        put(x, 8, "2");
        x.sync();
        put(x, 8, "2");
        x.sync();
        due("4 2 1", x.state(1), 3);
        x.remove(3);
        due("settle", x.settle(), 4);
        due("one segment", x.state(1), 1);
        due("its live", x.segment(0, 1), 4);
        int[] number = {0, 2, 4, 6};
        for (int j = 0; j < 4; j++) due("number", x.document(j, 0), number[j]);
        x.remove(0);
        x.sync();
        due("a dead one in a single segment", x.segment(0, 0), 4);
        due("settle without changes", x.settle(), 3);
        for (int f : new int[] {1, 2, 8}) x.remove(f);
        due("settle of the last", x.settle(), 0);
        due("no segment", x.state(1), 0);
        due("made in all", x.state(2), 7);
        put(x, 0, "1");
        x.sync();
        due("numbers go on", x.file(0, 3), 7);
    }

    private static void promise8() {
        CodeShelf x = new CodeShelf();
        x.keep(0);
        due("an empty text", x.file(0, 0), 0);
        due("has a line", x.file(0, 1), 1);
        due("and no trigram", x.file(0, 2), 0);
        put(x, 1, "6666");
        due("lines", x.file(1, 1), 5);
        due("trigrams", x.file(1, 2), 0);
        put(x, 9, "01201206012345");
        due("length", x.file(9, 0), 14);
        due("lines", x.file(9, 1), 2);
        due("different trigrams: 012 120 201 123 234 345", x.file(9, 2), 6);
        put(x, 2, "01602603");
        due("none across a line's end", x.file(2, 2), 0);
        due("no document yet", x.file(9, 3), NONE);
        x.sync();
        due("the document", x.file(9, 3), 3);
        x.remove(9);
        for (int what = 0; what < 3; what++) due("not there", x.file(9, what), NONE);
        due("but its document", x.file(9, 3), 3);
        x.sync();
        due("not after the SYNC", x.file(9, 3), NONE);
        put(x, 0, "000");
        due("the old document till the SYNC", x.file(0, 3), 0);
        for (int what : new int[] {-1, 4, LOW, HIGH}) due("others", x.file(0, what), NONE);
        for (int f : new int[] {-1, 10, LOW, HIGH}) {
            for (int what = 0; what < 4; what++) due("no file", x.file(f, what), NONE);
        }
    }

    private static void promise9() {
        CodeShelf x = new CodeShelf();
        put(x, 9, "0563");
        int[] want = {NONE, 0, 5, 6, 3, NONE};
        for (int i = -1; i < 5; i++) due("at(9, " + i + ")", x.at(9, i), want[i + 1]);
        put(x, 9, "1");
        due("of a shorter text", x.at(9, 1), NONE);
        put(x, 8, "");
        due("of an empty one", x.at(8, 0), NONE);
        for (int f : new int[] {-1, 10, 7, LOW, HIGH}) due("of no file", x.at(f, 0), NONE);
        for (int i : new int[] {40, 400, LOW, HIGH}) due("of no place", x.at(9, i), NONE);
        x.remove(9);
        due("of one removed", x.at(9, 0), NONE);
    }

    private static void promise10() {
        CodeShelf x = new CodeShelf();
        put(x, 0, "0120123");
        put(x, 1, "60126");
        put(x, 2, "0162");
        put(x, 9, "5012");
        due("having(0, 1, 2)", x.having(0, 1, 2), 3);
        due("having(5, 0, 1)", x.having(5, 0, 1), 1);
        due("having(2, 1, 0)", x.having(2, 1, 0), 0);
        x.sync();
        put(x, 9, "0");
        x.remove(0);
        due("of files as they are", x.having(0, 1, 2), 1);
        x.crash(0);
        due("and after a crash", x.having(0, 1, 2), 3);
        int[] wrong = {-1, 6, 7, LOW, HIGH};
        for (int w : wrong) {
            due("having", x.having(w, 1, 2), REFUSED);
            due("having", x.having(0, w, 2), REFUSED);
            due("having", x.having(0, 1, w), REFUSED);
        }
    }

    private static void promise11() {
        CodeShelf x = new CodeShelf();
        put(x, 0, "0123");
        put(x, 1, "123");
        put(x, 2, "1");
        put(x, 3, "1236012");
        put(x, 4, "60");
        put(x, 5, "1231");
        x.sync();
        due("documents", x.segment(0, 0), 6);
        due("live", x.segment(0, 1), 6);
        due("lists 012 123 231", x.segment(0, 2), 3);
        // 012: 1 3 -> 1 + 3; 123: 1 1 2 2 -> 1 + 1 + 3 + 3; 231: 6 -> 5
        due("bits", x.segment(0, 3), 17);
        due("least number", x.segment(0, 4), 0);
        x.remove(5);
        put(x, 0, "444");
        put(x, 1, "45");
        put(x, 2, "345");
        x.sync();
        due("live are fewer", x.segment(0, 1), 2);
        due("documents stay", x.segment(0, 0), 6);
        due("and so do the lists", x.segment(0, 2), 3);
        due("and their bits", x.segment(0, 3), 17);
        due("the second segment", x.segment(1, 0), 3);
        due("its least number", x.segment(1, 4), 6);
        due("its lists", x.segment(1, 2), 2);
        due("its bits: 7 and 9 take 5 and 7", x.segment(1, 3), 12);
        x.settle();
        due("settled", x.segment(0, 0), 5);
        due("the least number left", x.segment(0, 4), 3);
        // 3: 123 012; 4: -; 6: 444; 7: -; 8: 345 -> 4 4 7 9 -> 5 + 5 + 5 + 7
        due("lists", x.segment(0, 2), 4);
        due("bits", x.segment(0, 3), 22);
        for (int k : new int[] {-1, 1, 16, LOW, HIGH}) {
            for (int what = 0; what < 5; what++) due("no segment", x.segment(k, what), NONE);
        }
        for (int what : new int[] {-1, 5, LOW, HIGH}) due("others", x.segment(0, what), NONE);
        powersOfTwo();
    }

    private static void powersOfTwo() {
        CodeShelf x = new CodeShelf();
        int[] bits = {1, 3, 3, 5, 5, 5, 5, 7, 7, 7, 7, 7, 7, 7, 7, 9, 9};
        for (int n = 0; n < bits.length; n++) {
            put(x, 0, "000");
            x.sync();
            due("the number", x.segment(0, 4), n);
            due("bits of " + (n + 1), x.segment(0, 3), bits[n]);
        }
    }

    private static void keepAll(CodeShelf x, int first, int last) {
        for (int f = first; f <= last; f++) put(x, f, "00" + f % 6);
        x.sync();
    }

    /** As many segments and documents as there can be: 10, 9, .., 1, and then six more. */
    private static void promise11FullShelf() {
        CodeShelf x = new CodeShelf();
        for (int most = 9; most >= 6; most--) {
            keepAll(x, 0, 5);
            keepAll(x, most - 5, most);
        }
        for (int most = 5; most >= 0; most--) keepAll(x, 0, most);
        due("segments", x.state(1), 10);
        int start = 0;
        for (int k = 0; k < 10; k++) {
            due("documents of " + k, x.segment(k, 0), 10 - k);
            due("live ones of " + k, x.segment(k, 1), 1);
            due("the live one's file", x.document(start + 9 - k, 1), 9 - k);
            due("its segment", x.document(start + 9 - k, 3), k);
            due("it is live", x.document(start + 9 - k, 2), 1);
            start += 10 - k;
        }
        due("documents", start, 55);
        due("the last one", x.document(54, 0), 68);
        due("no more", x.document(55, 0), NONE);
        due("made", x.state(2), 69);
        keepAll(x, 4, 9);
        due("all merged", x.state(1), 1);
        due("all live", x.segment(0, 0), 10);
        for (int f = 0; f < 4; f++) due("the number", x.file(f, 3), new int[] {68, 67, 65, 62}[f]);
        for (int f = 4; f < 10; f++) due("the number", x.file(f, 3), 65 + f);
        due("lists", x.segment(0, 2), 6);
    }

    private static void promise12() {
        CodeShelf x = new CodeShelf();
        for (int f = 5; f < 8; f++) put(x, f, "1");
        x.sync();
        put(x, 9, "1");
        put(x, 6, "1");
        x.sync();
        int[][] want = {{0, 5, 1, 0}, {1, 6, 0, 0}, {2, 7, 1, 0}, {3, 6, 1, 1}, {4, 9, 1, 1}};
        for (int j = 0; j < 5; j++) {
            for (int what = 0; what < 4; what++) {
                due("document(" + j + ", " + what + ")", x.document(j, what), want[j][what]);
            }
        }
        for (int j : new int[] {-1, 5, 64, LOW, HIGH}) {
            for (int what = 0; what < 4; what++) due("no document", x.document(j, what), NONE);
        }
        for (int what : new int[] {-1, 4, LOW, HIGH}) due("others", x.document(0, what), NONE);
    }

    private static void promise13() {
        CodeShelf x = new CodeShelf();
        int[][] refused = {{-1, 0, 0}, {12, 0, 0}, {LOW, 1, 1}, {HIGH, 1, 1}, {0, -1, 0}, {0, 6, 0},
            {0, HIGH, 0}, {2, 0, 0}, {2, 64, 0}, {2, -1, 0}, {9, -1, 0}, {9, 2, 1}, {9, 0, 4},
            {9, 4, 4}, {9, 0, -1}, {9, LOW, 0}, {9, 0, HIGH}};
        for (int[] t : refused) due("refused token " + t[0] + " " + t[1] + " " + t[2], x.token(t[0], t[1], t[2]), REFUSED);
        due("none were added", x.wipe(), 0);
        int n = 0;
        for (int kind : new int[] {1, 3, 4, 5, 6, 7, 8, 10, 11}) {
            n++;
            due("others don't look", x.token(kind, LOW, HIGH), n);
        }
        due("letter 5", x.token(0, 5, -9), 10);
        due("class 1", x.token(2, 1, -9), 11);
        due("class 63", x.token(2, 63, 99), 12);
        due("count 0 0", x.token(9, 0, 0), 13);
        due("count 0 3", x.token(9, 0, 3), 14);
        due("count 3 3", x.token(9, 3, 3), 15);
        due("letter 0", x.token(0, 0, 0), 16);
        due("the 17th", x.token(0, 0, 0), REFUSED);
        due("16 stay", x.wipe(), 16);
    }

    private static void promise14() {
        CodeShelf x = new CodeShelf();
        put(x, 0, "012");
        due("search", search(x, "1"), 1);
        due("wipe", x.wipe(), 1);
        due("wipe again", x.wipe(), 0);
        due("what was found stays", x.hit(0, 2), 1);
        due("the empty expression", x.search(), 4);
        express(x, "*");
        x.search();
        x.wipe();
        due("place stays", x.place(), 0);
        due("tokens from one", x.token(1, 0, 0), 1);
    }

    private static void promise15Matches() {
        matches("", "012", "0:0-0 0:1-1 0:2-2 0:3-3");
        matches("", "", "0:0-0");
        matches("", "66", "0:0-0 1:0-0 2:0-0");
        matches("1", "010161", "0:1-2 0:3-4 1:0-1");
        matches(".", "0561", "0:0-1 0:1-2 1:0-1");
        matches("[035]", "012345", "0:0-1 0:3-4 0:5-6");
        matches("01", "0160610601", "0:0-2 3:0-2");
        matches("^", "0160", "0:0-0 1:0-0");
        matches("$", "0160", "0:2-2 1:1-1");
        matches("^$", "0660", "1:0-0");
        matches("^0", "0060", "0:0-1 1:0-1");
        matches("0$", "0060", "0:1-2 1:0-1");
        matches("0^", "00", "");
        matches("$0", "00", "");
        matches("1|12|123", "1231201", "0:0-3 0:3-5 0:6-7");
        matches("0|", "010", "0:0-1 0:1-1 0:2-3 0:3-3");
        matches("(0|01)(2|12)", "0120260122", "0:0-3 0:3-5 1:0-3");
        matches("()0()", "10", "0:1-2");
        matches("(^|1)0", "010", "0:0-1 0:1-3");
        CodeShelf x = new CodeShelf();
        put(x, 5, "160");
        put(x, 2, "0061");
        put(x, 9, "220");
        due("search by files, lines and places", search(x, "0|1"), 6);
        int[][] want = {{2, 0, 0, 1}, {2, 0, 1, 2}, {2, 1, 0, 1}, {5, 0, 0, 1}, {5, 1, 0, 1}, {9, 0, 2, 3}};
        for (int k = 0; k < 6; k++) {
            for (int what = 0; what < 4; what++) due("hit", x.hit(k, what), want[k][what]);
        }
        due("the expression stays", x.search(), 6);
        x.sync();
        x.remove(9);
        due("of files as they are", x.search(), 5);
        due("search stays of one", search(x, "2"), 0);
        due("none found then", x.hit(0, 0), NONE);
    }

    private static void promise15Repeats() {
        matches("0*", "1001", "0:0-0 0:1-3 0:3-3 0:4-4");
        matches("0*", "00", "0:0-2 0:2-2");
        matches("0+", "10010", "0:1-3 0:4-5");
        matches("01?", "0010", "0:0-1 0:1-3 0:3-4");
        matches("0{00}", "00", "0:0-0 0:1-1 0:2-2");
        matches("0{02}", "000", "0:0-2 0:2-3 0:3-3");
        matches("0{11}", "00", "0:0-1 0:1-2");
        matches("0{12}", "000", "0:0-2 0:2-3");
        matches("0{23}", "0600600060000", "1:0-2 2:0-3 3:0-3");
        matches("0{33}", "00600060000", "1:0-3 2:0-3");
        matches("(01|0)*1", "0101060011", "0:0-4 1:0-4");
        matches("(0*)*1", "0010", "0:0-3");
        matches("(0*|1)+", "0112", "0:0-3 0:3-3 0:4-4");
        matches("(^0)*", "00", "0:0-1 0:1-1 0:2-2");
        matches("(0|^)+1", "0011", "0:0-3");
        matches("(^|0){22}1", "0011", "0:0-3");
        matches("(0$)*", "00", "0:0-0 0:1-2 0:2-2");
        matches("0**", "100", "0:0-0 0:1-3 0:3-3");
        matches("0+?1", "0001", "0:0-4");
        matches("(01){23}2", "010101020101201012", "0:8-13 0:13-18");
        matches("(0?1){33}", "01101011", "0:0-5");
        matches(".*", "01234560", "0:0-6 0:6-6 1:0-1 1:1-1");
    }

    private static void promise15Sizes() {
        answers("0{33}{33}{33}", 0);
        answers("0{33}{33}{33}{22}", 0);
        answers("0{33}{33}{33}{22}01234", 0);
        answers("0{33}{33}{33}{22}012345", 0);
        answers("0{33}{33}{33}{22}0123450", LARGE);
        answers("0{33}{33}{33}{23}", LARGE);
        answers("0{33}{33}{33}{33}", LARGE);
        answers("0{33}{33}{33}{33}{00}", LARGE);
        answers("(0{33}{33}{33}{33}){00}", LARGE);
        answers("0{33}{33}{33}{33}{11}", LARGE);
        answers("(0{33}{33}{33}|0{33}{33}{33}|0+)", 0);
        answers("(0{33}{33}{33}|0{33}{33}{33}|01)", 0);
        answers("(0{33}{33}{33}|0{33}{33}{33}|012){00}", LARGE);
        answers("(0{33}{33}{33}|0{33}{33}{33})0?", 0);
        answers("(0{33}{33}{33}|0{33}{33}{33})0*1", 0);
        answers("(0{33}{33}{33}|0{33}{33}{33})0*12", LARGE);
        answers("(0{33}{33}{33}|0{33}{33}{33})0*", 0);
        answers("(0{33}{33}{33}|0{33}{33}{33})***", LARGE);
        answers("(0{33}{33}{33}|0{33}{33}{33})**", 0);
        answers("(0{33}{33}{33}|0{33}{33}{33})++?+", 0);
        answers("(0{33}{33}{33}|0{33}{33}{33})++?+?", LARGE);
        answers("(^$[1].{33}{33}{33}){22}", 0);
        answers("(^$[1].{33}{33}{33}0){22}", LARGE);
        answers("()0{33}{33}{33}{22}()||", 0);
        answers("()0{33}{33}{33}{22}()|||", 0);
        answers("()0{33}{33}{33}{22}()||||", LARGE);
        answers("0{33}{33}{33}{13}{00}", LARGE);
        answers("0{33}{33}{33}{02}", 0);
        answers("0{33}{33}{33}{02}0*1", 0);
        answers("0{33}{33}{33}{02}0*12", LARGE);
        answers("0{33}{33}{33}{12}0*12", 0);
        answers("0{33}{33}{33}{12}0*123", LARGE);
        CodeShelf x = new CodeShelf();
        put(x, 0, "000");
        search(x, "0");
        due("large", search(x, "0{33}{33}{33}{33}"), LARGE);
        nothingFound(x);
        due("no place", x.place(), NONE);
        search(x, "0");
        due("wrong in its form and large", search(x, "0{33}{33}{33}{33})"), SYNTAX);
        nothingFound(x);
    }

    private static void promise15Opens() {
        opens("", "", true);
        opens("^$", "", true);
        opens("0", "", true);
        opens("01", "5", true);
        opens("012", "012", true);
        opens("012", "01", false);
        opens("012", "0162", false);
        opens("0123", "012", false);
        opens("0123", "0126123", true);
        opens("01234", "01261236034", false);
        opens("01234", "01261236234", true);
        // six letters are no WORD more: 01234 and 345, but 345 by the TAIL 34 and the HEAD 5
        opens("012345", "0126123623463456045", true);
        opens("012345", "01261236234645", false);
        opens("012|345", "345", true);
        opens("012|345", "456", false);
        opens("012|34", "", true);
        opens("^012$", "0123", true);
        opens("0^1$2", "0", false);
        opens("01[234]", "014", true);
        opens("01[234]", "015", false);
        opens("01[2345]", "", true);
        opens("01.", "", true);
        opens("[01][01][01]", "2", false);
        opens("[01][01][01]", "101", true);
        opens("[012][012][0]", "2", true);
        opens("[012][01][0]", "2", false);
        opens("[012][01][0]", "210", true);
        opens("(0|0)(1|1)(2|2)", "345", false);
        opens("(01|0)(2|12)", "", true);
        opens("(01|0)(23|123)", "0126123", true);
        opens("(01|0)(23|123)", "012", false);
    }

    private static void promise15OpensBySequences() {
        // x is not known: its HEADS are those of its first items, its TAILS of its last
        opens("01.234", "234", true);
        opens("01.234", "0123", false);
        opens("012.*34", "012", true);
        opens("012.*345", "012", false);
        opens("012.*345", "345", false);
        opens("012.*345", "3456012", true);
        // TAILS 12 or 13 and HEADS 45 or 4: 124 needs 245 too
        opens("01(2|3).", "012", true);
        opens("0(12|13)(45|4)+", "0126124", true);
        opens("0(12|13)(45|4)+", "0126125", false);
        opens("0(12|13)(45)+", "0126124", false);
        opens("0(12|13)(45)+", "01261246245", true);
        // HEADS behind WORDS of one letter: 5, and behind it 0 4
        opens("5(4+0)", "", true);
        opens("35(4+0)", "354", true);
        opens("35(4+0)", "345", false);
        opens("(3)(5(04)+)", "35", false);
        opens("(3)(5(04)+)", "3506504", true);
        opens("12(()(34)+)", "1236234", true);
        opens("12(()(34)+)", "123", false);
        // TAILS before WORDS of one letter
        opens("((04)+5)3", "0456453", true);
        opens("((04)+5)3", "453", false);
        opens("((04)+5())3", "453", false);
        opens("((04)+5^)3", "0456453", true);
        opens("(.5)34", "", false);
        opens("(.5)34", "534", true);
        opens("(.5)34", "034", false);
        opens("(.).(012)", "", false);
        opens("(012).(.)", "", false);
        opens("(012).(.)", "012", true);
    }

    private static void promise15OpensByRepeats() {
        opens("(012)*", "", true);
        opens("(012)?", "", true);
        opens("(012){00}", "", true);
        opens("(012){01}", "", true);
        opens("(012)+", "", false);
        opens("(012)+", "012", true);
        opens("(012){11}", "", false);
        opens("(012){13}", "", false);
        opens("(012){22}", "012", true);
        opens("(012){22}", "120", false);
        // COUNT 1 1 is as its item, which + is not: 0123 is a WORD, so 123 is asked for
        opens("(012){11}3", "0126123", true);
        opens("(0){11}12", "12", false);
        opens("(0){12}1", "", true);
        opens("(0){12}12", "", false);
        opens("0{12}12", "012", true);
        opens("0{12}12", "112", false);
        opens("(01){33}2", "01", false);
        opens("(01){33}2", "012", true);
        opens("0{00}123", "123", true);
        opens("01{00}23", "023", true);
        opens("01{00}23", "0136123", false);
        opens("01{03}23", "", true);
        opens("01*23", "", true);
        opens("01*234", "234", true);
        opens("01*234", "23", false);
        // ? keeps WORDS: 023 and 0123
        opens("01?23", "023", true);
        opens("01?23", "0126123", true);
        opens("01?23", "012", false);
        opens("01?23", "123", false);
        // where WORDS aren't known the CLAIM of ? is true, and its HEADS have the empty row
        opens("(012.)?345", "345", true);
        opens("(012.)?345", "012", false);
        opens("01(23+)?", "", true);
        opens("0123(2+)?", "0126123", true);
        // an alt of which one is not known
        opens("(012|.)", "", true);
        opens("(012.|345.)", "345", true);
        opens("(012.|345.)", "034", false);
        opens("(01+|23+)(45)+", "", false);
        opens("(01+|23+)(45)+", "145", true);
        opens("(01+|23+)(45)+", "345", true);
        opens("(01+|23+)(45)+", "245", false);
    }

    private static void promise15OpensByManyRows() {
        // eight WORDS of the alt, or nine: then it has nine HEADS too, which are just the empty row
        opens("5[012][01]|50[34]", "5", false);
        opens("5[012][01]|50[34]", "504", true);
        opens("5[012][01]|5[34][0]|522", "", false);
        opens("5[012][01]|5[34][0]|522", "540", true);
        opens("5[012][01]|5[34][0]|522", "522", true);
        opens("([012][01]|[34][0])5", "", false);
        opens("([012][01]|[345][0])5", "", true);
        // the last | repeats a row: eight different ones
        opens("([012][01]|[34][0]|00|40)5", "", false);
        opens("([012][01]|[34][0]|00|41)5", "", true);
        // nine HEADS, but three TAILS
        opens("2([012][345]+)", "", true);
        opens("([012][345]+)22", "", false);
        opens("([012][345]+)22", "422", true);
        opens("22([012]+[345])", "220", true);
        opens("22([012]+[345])", "225", false);
        opens("([012][012][012])", "", true);
        opens("5[012].?5[012]", "", true);
        opens("([012]+|[345]+)([012]+|[345]+)", "", true);
        // HEADS that were nine are no other row than the empty one: before them six rows stay six
        opens("11(([012]|[345])([012][345]+))", "11", false);
        opens("11(([012]|[345])([012][345]+))", "114", true);
        opens("(([012]+[345])([012]|[345]))11", "11", false);
        opens("(([012]+[345])([012]|[345]))11", "411", true);
        // TAILS with nine rows are the empty row, while HEADS of six stay
        opens("55([01][01]*[012][345])55", "", false);
        opens("55([01][01]*[012][345])55", "550", true);
        opens("55([01][01]*[012][34])55", "550", false);
        opens("55([01][01]*[012][34])55", "5506035", false);
        opens("55([01][01]*[012][34])55", "55060355", true);
        opens("55([01][01]*[012][34])55", "55060346345", false);
    }

    private static void promise16() {
        syntax("*", 0);
        syntax("+0", 0);
        syntax("?", 0);
        syntax("{12}", 0);
        syntax(")", 0);
        syntax("0)1", 1);
        syntax("(", 1);
        syntax("((((((((((((((((", 16);
        syntax("(0", 2);
        syntax("(0|", 3);
        syntax("(*", 1);
        syntax("0|*", 2);
        syntax("(0|+)", 3);
        syntax("(()", 3);
        syntax("())", 2);
        syntax("(0))*", 3);
        syntax("0*+?{12}|{12}", 6);
        syntax("((*)", 2);
        syntax("|)", 1);
        syntax("(0)(1)2|3)", 9);
        for (String fine : new String[] {"", "|", "||", "()", "()*", "(|)", "0**", "^*", "$+", "(0|)*", "(())"}) {
            CodeShelf x = new CodeShelf();
            due("search of " + fine, search(x, fine), 0);
            due("place of " + fine, x.place(), NONE);
        }
        CodeShelf x = new CodeShelf();
        search(x, "0)");
        due("place", x.place(), 1);
        x.token(0, 0, 0);
        due("place stays till the next search", x.place(), 1);
        search(x, "0");
        due("none then", x.place(), NONE);
        search(x, ")");
        search(x, "0{33}{33}{33}{33}");
        due("none with LARGE", x.place(), NONE);
    }

    private static void promise17() {
        CodeShelf x = new CodeShelf();
        put(x, 6, "0000000000000000000000000000000000000000");
        put(x, 8, "00");
        due("42 matches", search(x, "0"), 42);
        due("the first", x.hit(0, 2), 0);
        due("the 40th", x.hit(39, 2), 39);
        due("behind it", x.hit(39, 3), 40);
        for (int what = 0; what < 4; what++) due("not kept", x.hit(40, what), NONE);
        due("not kept", x.hit(41, 0), NONE);
        for (int k : new int[] {-1, 42, LOW, HIGH}) due("no match", x.hit(k, 0), NONE);
        for (int what : new int[] {-1, 4, LOW, HIGH}) due("others", x.hit(0, what), NONE);
        put(x, 6, "1600");
        x.remove(8);
        due("as found before", x.hit(39, 3), 40);
        due("two now", x.search(), 2);
        due("file", x.hit(1, 0), 6);
        due("line", x.hit(1, 1), 1);
        due("begin", x.hit(1, 2), 1);
        due("end", x.hit(1, 3), 2);
        due("no third", x.hit(2, 0), NONE);
    }

    private static void promise18() {
        CodeShelf x = new CodeShelf();
        put(x, 0, "012");
        put(x, 9, "3012");
        put(x, 4, "12");
        due("search", search(x, "012"), 2);
        boolean[] want = {true, false, false, false, false, false, false, false, false, true};
        for (int f = 0; f < 10; f++) CHECK.due("opened(" + f + ")", x.opened(f), want[f]);
        for (int f : new int[] {-1, 10, LOW, HIGH}) CHECK.due("no file", x.opened(f), false);
        x.remove(0);
        put(x, 4, "012");
        CHECK.due("the latest search", x.opened(0), true);
        CHECK.due("the latest search", x.opened(4), false);
        x.search();
        CHECK.due("one not there", x.opened(0), false);
        CHECK.due("as it is now", x.opened(4), true);
        put(x, 3, "");
        search(x, "0");
        CHECK.due("without a match", x.opened(3), true);
    }

    private static void promise19() {
        CodeShelf x = new CodeShelf();
        put(x, 0, "");
        put(x, 1, "0");
        put(x, 2, "00000000");
        put(x, 3, "000000001");
        draft(x, "0123");
        search(x, "0");
        int[] before = {4, 0, 0, 4, 4, 4};
        for (int what = 0; what < 6; what++) due("state(" + what + ")", x.state(what), before[what]);
        x.sync();
        x.remove(1);
        put(x, 4, "");
        int[] after = {2, 1, 4, 4, 4, 0};
        for (int what = 0; what < 6; what++) due("state(" + what + ")", x.state(what), after[what]);
        for (int i = 0; i < 40; i++) x.type(1);
        x.keep(5);
        search(x, "1");
        due("1 + 2 + 1 + 5", x.state(4), 9);
        search(x, "001");
        due("only of those opened", x.state(4), 2);
        for (int what : new int[] {-1, 6, LOW, HIGH}) due("others", x.state(what), NONE);
    }
}
