import java.util.Random;
import java.util.function.ToIntFunction;

/**
 * The boundary cases of texts, changes, documents and segments: for each sentence of the document
 * that names one, a test of its own, with the sentence above it.
 */
public final class BoundaryShelfTest extends Asking {
    public static void main(String[] args) {
        fiveHundredAndTwelveCalls();
        greatNumbers();
        laterCallsEnd();
        characters();
        files();
        textLengths();
        lines();
        trigramsStandSideBySide();
        sixWait();
        noSyncIfRefused();
        noneWaitsAfterSync();
        crashLosesAllButTheFirst();
        crashLeavesWhatASyncMade();
        syncWithoutChanges();
        documentsOfFilesThatAreThere();
        oneDocumentForEachFile();
        noSegmentWithoutDocuments();
        numbersGoOn();
        liveUntilTheSync();
        twoOrMoreSegments();
        atLeastAsManyDocuments();
        mergedOnesAreComparedAgain();
        mergedOnesHaveOnlyLiveDocuments();
        listsOfDeadDocuments();
        listsOfAllTrigrams();
        powersOfTwo();
        newObject();
        typeRefuses();
        keepRefuses();
        keepWhetherItWasThereOrNot();
        removeRefuses();
        crashWithMoreThanWait();
        crashRefuses();
        crashLetsStay();
        settleToNone();
        settleAnswersDocuments();
        fileNotThere();
        fileOthers();
        liveDocumentOfOneNotThere();
        atNone();
        havingRefuses();
        havingFilesThatAreThere();
        segmentNone();
        documentNone();
        CHECK.end("BoundaryShelfTest");
    }

    private static final String FULL = "0123450123450123450123450123450123450123";

    private static CodeShelf shelf(String... texts) {
        CodeShelf x = new CodeShelf();
        for (int f = 0; f < texts.length; f++) put(x, f, texts[f]);
        return x;
    }

    /** Empty drafts for the files first..last, and then a SYNC. */
    private static int syncFiles(CodeShelf x, int first, int last) {
        for (int f = first; f <= last; f++) x.keep(f);
        return x.sync();
    }

    private static void sizes(String what, CodeShelf x, int... want) {
        due(what + ": segments", x.state(1), want.length);
        for (int k = 0; k < want.length; k++) due(what + ": documents of " + k, x.segment(k, 0), want[k]);
        due(what + ": no more", x.segment(want.length, 0), NONE);
    }

    // ---- "An object is used for at most 512 calls after it has been made"

    private static void lastCall(String what, ToIntFunction<CodeShelf> call, int want) {
        CodeShelf x = new CodeShelf();
        for (int i = 0; i < 511; i++) due("keep, call " + (i + 1), x.keep(i % 10), i % 6 + 1);
        due("call 512, " + what, call.applyAsInt(x), want);
    }

    private static void fiveHundredAndTwelveCalls() {
        // 85 SYNCs of six files each; by every second one all becomes a segment of ten
        lastCall("keep", x -> x.keep(1), 2);
        lastCall("remove", x -> x.remove(9), 2);
        lastCall("crash", x -> x.crash(0), 1);
        lastCall("settle", x -> x.settle(), 10);
        lastCall("waiting", x -> x.state(0), 1);
        lastCall("segments", x -> x.state(1), 2);
        lastCall("documents made", x -> x.state(2), 510);
        lastCall("files", x -> x.state(3), 10);
        lastCall("the first segment", x -> x.segment(0, 0), 10);
        lastCall("its live ones", x -> x.segment(0, 1), 4);
        lastCall("its least number", x -> x.segment(0, 4), 494);
        lastCall("the second segment", x -> x.segment(1, 0), 6);
        lastCall("its least number", x -> x.segment(1, 4), 504);
        lastCall("the last document", x -> x.document(15, 0), 509);
        lastCall("its file", x -> x.document(15, 1), 9);
        lastCall("the document of file 9", x -> x.file(9, 3), 509);
        lastCall("a search of ten empty texts", x -> x.search(), 10);
        CodeShelf x = new CodeShelf();
        for (int call = 1; call <= 512; call++) due("type", x.type(call % 7), call <= 40 ? call : REFUSED);
        CodeShelf y = new CodeShelf();
        for (int call = 1; call <= 512; call++) due("token", y.token(8, 0, 0), call <= 16 ? call : REFUSED);
    }

    private static void greatNumbers() {
        CodeShelf x = new CodeShelf();
        for (int i = 0; i < 504; i++) x.keep(i % 10);
        draft(x, "000");
        due("call 508", x.keep(0), 1);
        due("call 509", x.sync(), 2);
        due("the LIST of 504 + 1, call 510", x.segment(1, 3), 17);
        due("its number, call 511", x.segment(1, 4), 504);
        due("one LIST, call 512", x.segment(1, 2), 1);
        CodeShelf y = new CodeShelf();
        for (int i = 0; i < 252; i++) y.keep(i % 10);
        y.sync();
        int[] bits = {15, 15, 15, 17, 17};
        for (int i = 0; i < 5; i++) {
            put(y, 0, "000");
            y.sync();
            due("the number", y.segment(1, 4), 252 + i);
            due("bits of " + (253 + i), y.segment(1, 3), bits[i]);
        }
    }

    /** "What later calls answer is free", but LANGUAGE.md: "No call may ever throw or fail to end". */
    private static void laterCallsEnd() {
        Random random = new Random(512);
        CodeShelf x = new CodeShelf();
        int[] odd = outside(0, 9);
        for (int call = 0; call < 200000; call++) {
            int[] n = new int[3];
            for (int i = 0; i < 3; i++) n[i] = random.nextInt(20) == 0 ? odd[random.nextInt(odd.length)] : random.nextInt(7);
            switch (random.nextInt(18)) {
                case 0: x.keep(n[0]); break;
                case 1: x.remove(n[0]); break;
                case 2: x.sync(); break;
                case 3: x.crash(n[0]); break;
                case 4: x.settle(); break;
                case 5: x.file(n[0], n[1]); break;
                case 6: x.at(n[0], n[1]); break;
                case 7: x.having(n[0], n[1], n[2]); break;
                case 8: x.segment(n[0], n[1]); break;
                case 9: x.document(n[0], n[1]); break;
                case 10: x.token(n[0] + random.nextInt(6), n[1], n[2]); break;
                case 11: if (n[0] == 0) x.wipe(); break;
                case 12: x.search(); break;
                case 13: x.hit(n[0], n[1]); break;
                case 14: x.opened(n[0]); x.place(); break;
                case 15: x.state(n[0]); break;
                default: x.type(n[0]); break;
            }
        }
        due("all calls ended", 1, 1);
    }

    // ---- Terms: texts

    /** "CHARACTERS are 0..6: LETTERS 0..5, and 6, which ends a line." */
    private static void characters() {
        CodeShelf x = new CodeShelf();
        due("the least character", x.type(0), 1);
        due("the greatest letter", x.type(5), 2);
        due("the end of a line", x.type(6), 3);
        due("none below", x.type(-1), REFUSED);
        due("none above", x.type(7), REFUSED);
        x.keep(0);
        CHECK.due("the text", text(x, 0), "056");
        put(x, 1, "000");
        put(x, 2, "555");
        put(x, 3, "606");
        due("the least letter", x.having(0, 0, 0), 1);
        due("the greatest letter", x.having(5, 5, 5), 1);
        due("6 is no letter", x.having(6, 0, 6), REFUSED);
        due("ANY is no 6", search(x, "."), 2 + 3 + 3 + 1);
    }

    /** "FILES 0..9 are THERE or not" */
    private static void files() {
        CodeShelf x = new CodeShelf();
        due("none is there", x.state(3), 0);
        for (int f = 0; f < 10; f++) {
            x.keep(f);
            due("one more is there", x.state(3), f + 1);
        }
        x.keep(10);
        x.keep(-1);
        due("all are there", x.state(3), 10);
        for (int f = 0; f < 10; f++) {
            x.remove(f);
            due("one less is there", x.state(3), 9 - f);
            due("it is not", x.file(f, 0), NONE);
        }
        x.sync();
        due("none is there", x.state(3), 0);
    }

    /** "one that is has a TEXT of 0 to 40 characters" */
    private static void textLengths() {
        CodeShelf x = shelf("", FULL, FULL.substring(1));
        due("an empty text", x.file(0, 0), 0);
        due("a full one", x.file(1, 0), 40);
        due("one less", x.file(2, 0), 39);
        CHECK.due("the full one", text(x, 1), FULL);
        draft(x, FULL + "5");
        x.keep(0);
        CHECK.due("without the 41st", text(x, 0), FULL);
        x.sync();
        x.keep(1);
        due("empty where it was full", x.file(1, 0), 0);
        x.crash(0);
        CHECK.due("full again", text(x, 1), FULL);
        x.keep(9);
        put(x, 9, FULL);
        x.crash(1);
        due("empty again", x.file(9, 0), 0);
    }

    /** "its LINES are the parts between the 6s (one more than it has 6s)" */
    private static void lines() {
        CodeShelf x = shelf("", "6", "0", "60", "06", "6".repeat(40), FULL);
        int[] want = {1, 2, 1, 2, 2, 41, 1};
        for (int f = 0; f < want.length; f++) due("lines of " + f, x.file(f, 1), want[f]);
        due("each line has a beginning", search(x, "^"), 50);
        due("and an end", search(x, "$"), 50);
        due("the empty ones", search(x, "^$"), 1 + 2 + 1 + 1 + 41);
    }

    /** "A TRIGRAM is a row of three letters; a text HAS those whose letters stand side by side in it." */
    private static void trigramsStandSideBySide() {
        String different = allTrigrams().substring(0, 40);
        CodeShelf x = shelf("", "01", "012", "0162", "6012", "0126", "0".repeat(40), different, "0120");
        int[] want = {0, 0, 1, 0, 1, 1, 1, 38, 2};
        for (int f = 0; f < want.length; f++) due("trigrams of " + f, x.file(f, 2), want[f]);
        due("012", x.having(0, 1, 2), 4);
        due("120, across the end", x.having(1, 2, 0), 1);
        due("the first ones", x.having(0, 0, 0), 2);
        due("the last ones", x.having(different.charAt(37) - '0', different.charAt(38) - '0', different.charAt(39) - '0'), 1);
    }

    // ---- Terms: changes

    /** "At most 6 wait: before a seventh one comes there is a SYNC" */
    private static void sixWait() {
        CodeShelf x = new CodeShelf();
        for (int n = 1; n <= 6; n++) due("keep", put(x, 3, "00" + (n - 1)), n);
        due("no SYNC with six", x.state(2), 0);
        due("the seventh waits alone", put(x, 3, "33"), 1);
        due("the SYNC came before", x.state(2), 1);
        due("with the sixth text", x.segment(0, 2), 1);
        due("not the seventh", x.file(3, 0), 2);
        CodeShelf y = shelf("0", "1", "2", "3", "4", "5");
        due("a seventh that takes away", y.remove(5), 1);
        due("six were made", y.state(2), 6);
        due("all of them live", y.segment(0, 1), 6);
        for (int n = 2; n <= 6; n++) due("the eighth to twelfth", y.remove(n - 2), n);
        due("no SYNC more", y.segment(0, 1), 6);
        due("the thirteenth", y.keep(9), 1);
        due("a second SYNC", y.segment(0, 1), 0);
        CodeShelf z = shelf("0", "1", "2", "3", "4", "5");
        z.crash(5);
        due("a sixth again", z.keep(9), 6);
        due("without a SYNC", z.state(2), 0);
        due("a seventh", z.keep(8), 1);
        due("with a SYNC", z.state(2), 6);
        due("of the sixth too", z.file(9, 3), 5);
    }

    /** "(not if the call is REFUSED)" */
    private static void noSyncIfRefused() {
        CodeShelf x = shelf("0", "1", "2", "3", "4", "5");
        for (int f : outside(0, 9)) {
            due("keep(" + f + ")", x.keep(f), REFUSED);
            due("remove(" + f + ")", x.remove(f), REFUSED);
        }
        for (int f = 6; f < 10; f++) due("remove of one not there", x.remove(f), REFUSED);
        due("crash", x.crash(-1), REFUSED);
        due("six wait", x.state(0), 6);
        due("no document", x.state(2), 0);
        due("no segment", x.state(1), 0);
        due("all can be lost", x.crash(0), 6);
    }

    /** "by a SYNC they last, and none waits then" */
    private static void noneWaitsAfterSync() {
        CodeShelf x = shelf("0", "1");
        x.remove(0);
        x.sync();
        due("none waits", x.state(0), 0);
        due("none is lost", x.crash(0), 0);
        due("file 0 is gone", x.file(0, 0), NONE);
        due("file 1 is there", x.at(1, 0), 1);
        x.keep(1);
        x.settle();
        due("none waits", x.state(0), 0);
        due("none is lost", x.crash(0), 0);
        due("file 1 is empty", x.file(1, 0), 0);
    }

    /** "After a CRASH only the first n of those that waited wait; all is as if the others had not been made" */
    private static void crashLosesAllButTheFirst() {
        for (int n = 0; n <= 6; n++) {
            CodeShelf x = lasting(), y = lasting();
            sixChanges(x, 6);
            due("lost", x.crash(n), 6 - n);
            sixChanges(y, n);
            same("crash(" + n + ") of six", x, y);
            x.sync();
            y.sync();
            same("and a SYNC", x, y);
        }
    }

    private static CodeShelf lasting() {
        CodeShelf x = shelf("000", "111", "222");
        x.sync();
        return x;
    }

    /** The draft is left empty, whichever number of them is made. */
    private static void sixChanges(CodeShelf x, int n) {
        if (n > 0) put(x, 0, "333");
        if (n > 1) x.remove(0);
        if (n > 2) put(x, 0, "4");
        if (n > 3) x.remove(1);
        if (n > 4) put(x, 9, FULL);
        if (n > 5) x.keep(9);
    }

    /** "(but for what was made by a SYNC)" */
    private static void crashLeavesWhatASyncMade() {
        CodeShelf x = shelf("0", "1", "2", "3", "4", "5", "0"), y = shelf("0", "1", "2", "3", "4", "5");
        due("the seventh is lost", x.crash(0), 1);
        y.sync();
        same("the SYNC before it stays", x, y);
        put(x, 7, "55");
        x.crash(0);
        put(x, 8, "55");
        x.sync();
        due("a lost change takes no number", x.file(8, 3), 6);
        due("nor a document", x.file(7, 3), NONE);
    }

    // ---- Terms: documents and segments

    /** "By a SYNC, if changes wait" */
    private static void syncWithoutChanges() {
        CodeShelf x = shelf("000", "111"), y = shelf("000", "111");
        x.sync();
        y.sync();
        for (int i = 0; i < 5; i++) due("sync again", x.sync(), 1);
        same("without changes", x, y);
        put(x, 0, "");
        x.crash(0);
        due("sync of lost ones", x.sync(), 1);
        same("after a crash", x, y);
        due("the document is live", x.document(0, 2), 1);
        due("none made", x.state(2), 2);
    }

    /** "for each file that one of them is of and that is there, by the numbers of the files" */
    private static void documentsOfFilesThatAreThere() {
        CodeShelf x = new CodeShelf();
        put(x, 9, "0");
        put(x, 4, "1");
        put(x, 0, "2");
        x.remove(4);
        due("sync", x.sync(), 1);
        due("two documents", x.state(2), 2);
        due("file 0", x.file(0, 3), 0);
        due("file 9", x.file(9, 3), 1);
        due("file 4", x.file(4, 3), NONE);
        x.remove(0);
        x.keep(0);
        x.sync();
        due("one that came back", x.file(0, 3), 2);
        due("none of the unchanged", x.state(2), 3);
    }

    /** "a document is made, with its text": one, however many changes are of the file. */
    private static void oneDocumentForEachFile() {
        CodeShelf x = new CodeShelf();
        for (int i = 0; i < 6; i++) put(x, 2, "0" + i + "01");
        x.sync();
        due("one", x.state(2), 1);
        due("the last text: 050 and 501", x.segment(0, 2), 2);
        due("having them", x.having(5, 0, 1), 1);
        put(x, 2, "0501");
        x.sync();
        due("the same text is a change too", x.state(2), 2);
        due("its document", x.file(2, 3), 1);
    }

    /** "these, if there are any, are a new segment behind the others" */
    private static void noSegmentWithoutDocuments() {
        CodeShelf x = new CodeShelf();
        x.keep(0);
        x.remove(0);
        due("a file that is gone", x.sync(), 0);
        due("no documents", x.state(2), 0);
        due("no segment", x.segment(0, 0), NONE);
        syncFiles(x, 0, 1);
        x.remove(0);
        x.remove(1);
        due("removals alone", x.sync(), 1);
        sizes("the dead stay", x, 2);
        due("none live", x.segment(0, 1), 0);
        due("one behind them", syncFiles(x, 5, 5), 2);
        sizes("behind", x, 2, 1);
    }

    /** "the next number (0, 1, 2, .. in all)" */
    private static void numbersGoOn() {
        CodeShelf x = new CodeShelf();
        syncFiles(x, 0, 0);
        due("the first", x.file(0, 3), 0);
        syncFiles(x, 0, 1);
        due("the second", x.file(0, 3), 1);
        due("the third", x.file(1, 3), 2);
        x.remove(0);
        x.remove(1);
        due("none left", x.settle(), 0);
        syncFiles(x, 0, 0);
        due("the fourth", x.file(0, 3), 3);
        due("in all", x.state(2), 4);
    }

    /** "Documents are LIVE at first; by a SYNC those made before are so no more whose file a waiting change is of." */
    private static void liveUntilTheSync() {
        CodeShelf x = new CodeShelf();
        syncFiles(x, 0, 4);
        due("live at first", x.segment(0, 1), 5);
        put(x, 0, "0");
        x.remove(1);
        x.keep(2);
        due("live till the SYNC", x.segment(0, 1), 5);
        x.crash(2);
        x.sync();
        int[] live = {0, 0, 1, 1, 1, 1};
        for (int j = 0; j < 6; j++) due("live after it, " + j, x.document(j, 2), live[j]);
        x.keep(4);
        x.remove(4);
        x.sync();
        due("kept and taken away", x.document(4, 2), 0);
        due("not the others", x.document(3, 2), 1);
        due("no live document", x.file(4, 3), NONE);
    }

    /** "as long as there are two or more segments" */
    private static void twoOrMoreSegments() {
        CodeShelf x = new CodeShelf();
        x.sync();
        sizes("none", x);
        syncFiles(x, 0, 5);
        sizes("one", x, 6);
        x.remove(0);
        x.sync();
        sizes("a single one keeps its dead", x, 6);
        due("five live", x.segment(0, 1), 5);
        CodeShelf y = new CodeShelf();
        syncFiles(y, 0, 0);
        y.remove(0);
        y.settle();
        syncFiles(y, 1, 1);
        sizes("one after none", y, 1);
    }

    /** "and the last one has at least as many documents as the one before it" */
    private static void atLeastAsManyDocuments() {
        CodeShelf fewer = new CodeShelf();
        syncFiles(fewer, 0, 2);
        syncFiles(fewer, 3, 4);
        sizes("one fewer", fewer, 3, 2);
        CodeShelf equal = new CodeShelf();
        syncFiles(equal, 0, 1);
        syncFiles(equal, 3, 4);
        sizes("as many", equal, 4);
        CodeShelf more = new CodeShelf();
        syncFiles(more, 0, 1);
        syncFiles(more, 3, 5);
        sizes("one more", more, 5);
        CodeShelf dead = new CodeShelf();
        syncFiles(dead, 0, 2);
        syncFiles(dead, 0, 1);
        sizes("the dead count: three and two, though one and two live", dead, 3, 2);
        due("one lives", dead.segment(0, 1), 1);
        CodeShelf gone = new CodeShelf();
        syncFiles(gone, 0, 2);
        syncFiles(gone, 3, 4);
        for (int f = 0; f < 3; f++) gone.remove(f);
        gone.sync();
        sizes("they count when all are dead", gone, 3, 2);
    }

    private static void mergedOnesAreComparedAgain() {
        CodeShelf x = new CodeShelf();
        syncFiles(x, 0, 3);
        syncFiles(x, 4, 5);
        syncFiles(x, 6, 6);
        sizes("4 2 1", x, 4, 2, 1);
        syncFiles(x, 7, 7);
        sizes("1 and 1, 2 and 2, 4 and 4", x, 8);
        CodeShelf y = new CodeShelf();
        syncFiles(y, 0, 4);
        syncFiles(y, 5, 6);
        syncFiles(y, 7, 7);
        syncFiles(y, 8, 8);
        sizes("1 and 1, 2 and 2, but not 5 and 4", y, 5, 4);
        for (int j = 0; j < 9; j++) {
            due("the file of " + j, y.document(j, 1), j);
            due("the segment of " + j, y.document(j, 3), j < 5 ? 0 : 1);
        }
    }

    /** "these two become one, with their LIVE documents" */
    private static void mergedOnesHaveOnlyLiveDocuments() {
        CodeShelf x = new CodeShelf();
        syncFiles(x, 0, 2);
        syncFiles(x, 3, 4);
        syncFiles(x, 3, 4);
        sizes("2 and 2 are the two live ones, fewer than 3", x, 3, 2);
        due("the least number", x.segment(1, 4), 5);
        syncFiles(x, 0, 1);
        sizes("2 and 2 are four, and with the one live of 3 are five", x, 5);
        int[] number = {2, 5, 6, 7, 8};
        for (int j = 0; j < 5; j++) due("the number of " + j, x.document(j, 0), number[j]);
        due("no more", x.document(5, 0), NONE);
    }

    /** "A segment keeps a LIST for each trigram that the text of one of its documents (LIVE or not) has" */
    private static void listsOfDeadDocuments() {
        CodeShelf x = shelf("000", "111", "22");
        x.sync();
        due("lists", x.segment(0, 2), 2);
        due("bits of 1 and 2", x.segment(0, 3), 1 + 3);
        x.remove(0);
        x.remove(1);
        x.remove(2);
        x.sync();
        due("none live", x.segment(0, 1), 0);
        due("lists of the dead", x.segment(0, 2), 2);
        due("their bits", x.segment(0, 3), 1 + 3);
        put(x, 5, "1116000");
        put(x, 4, "111");
        put(x, 6, "");
        x.sync();
        sizes("merged without the dead", x, 3);
        due("lists", x.segment(0, 2), 2);
        due("bits: 111 in 3 and 4, 000 in 4", x.segment(0, 3), 5 + 1 + 5);
        CodeShelf y = shelf("", "01", "6666", "01612");
        y.sync();
        due("no trigram", y.segment(0, 2), 0);
        due("no bits", y.segment(0, 3), 0);
    }

    /** A row of letters in which each of the 216 trigrams stands once. */
    private static String allTrigrams() {
        StringBuilder all = new StringBuilder("000");
        for (boolean more = true; more;) {
            more = false;
            for (int l = 5; l >= 0 && !more; l--) {
                String next = all.substring(all.length() - 2) + l;
                if (all.indexOf(next) < 0) {
                    all.append(l);
                    more = true;
                }
            }
        }
        return all.toString();
    }

    private static void listsOfAllTrigrams() {
        String all = allTrigrams();
        due("a row with all trigrams", all.length(), 218);
        CodeShelf x = new CodeShelf();
        for (int f = 0; f < 6; f++) put(x, f, all.substring(38 * f, Math.min(218, 38 * f + 40)));
        due("sync", x.sync(), 1);
        due("lists", x.segment(0, 2), 216);
        due("bits of 1, 2, 3, 4, 5 and 6", x.segment(0, 3), 38 * (1 + 3 + 3 + 5 + 5) + 26 * 5);
        for (int f = 0; f < 6; f++) x.remove(f);
        x.sync();
        due("lists of the dead", x.segment(0, 2), 216);
    }

    /** "each such d takes 2 g + 1 BITS, 2^g being the greatest power of two that is not above d" */
    private static void powersOfTwo() {
        CodeShelf first = new CodeShelf();
        int[] bits = {1, 3, 3, 5, 5, 5, 5, 7, 7, 7, 7, 7, 7, 7, 7, 9};
        for (int n = 0; n < 16; n++) {
            put(first, 0, "000");
            first.sync();
            due("bits of n1 + 1 = " + (n + 1), first.segment(0, 3), bits[n]);
        }
        for (int gap = 1; gap <= 5; gap++) {
            CodeShelf x = new CodeShelf();
            for (int f = 0; f < 6; f++) put(x, f, f == 0 || f == gap ? "000" : "");
            x.sync();
            due("bits of 1 and n2 - n1 = " + gap, x.segment(0, 3), 1 + bits[gap - 1]);
        }
        CodeShelf all = shelf("000", "000", "000", "000", "000", "000");
        all.sync();
        due("bits of six neighbours", all.segment(0, 3), 6);
    }

    // ---- the promises

    /** Promise 1: "No files, documents, changes; draft and expression are empty; nothing was found." */
    private static void newObject() {
        CHECK.due("a new one", look(new CodeShelf()), "state 0 0 0 0 0 0, file 0 -1 -1 -1 -1 , file 1 -1 -1 -1 -1 ,"
            + " file 2 -1 -1 -1 -1 , file 3 -1 -1 -1 -1 , file 4 -1 -1 -1 -1 , file 5 -1 -1 -1 -1 ,"
            + " file 6 -1 -1 -1 -1 , file 7 -1 -1 -1 -1 , file 8 -1 -1 -1 -1 , file 9 -1 -1 -1 -1 , place -1");
        due("no tokens", new CodeShelf().wipe(), 0);
        due("the empty draft", new CodeShelf().type(0), 1);
        due("the empty expression is an alt", new CodeShelf().search(), 0);
        CodeShelf x = new CodeShelf();
        x.keep(5);
        due("an empty draft is kept", x.file(5, 0), 0);
    }

    /** Promise 2: "REFUSED if it is none, or there are 40." */
    private static void typeRefuses() {
        CodeShelf x = shelf("012"), y = shelf("012");
        for (int c : outside(0, 6)) due("type(" + c + ")", x.type(c), REFUSED);
        same("nothing changed", x, y);
        for (int i = 0; i < 39; i++) x.type(0);
        due("the 40th", x.type(6), 40);
        for (int c = 0; c < 7; c++) due("the 41st", x.type(c), REFUSED);
        due("40 there are", x.state(5), 40);
        x.keep(0);
        CHECK.due("as they were", text(x, 0), "0".repeat(39) + "6");
    }

    /** Promise 3: "REFUSED if there is no such number" */
    private static void keepRefuses() {
        CodeShelf x = shelf("012"), y = shelf("012");
        draft(x, "345");
        draft(y, "345");
        for (int f : outside(0, 9)) due("keep(" + f + ")", x.keep(f), REFUSED);
        same("nothing changed", x, y);
        due("file 0 is the least", x.keep(0), 2);
        CHECK.due("with the draft", text(x, 0), "345");
        due("file 9 is the greatest", y.keep(9), 2);
        CHECK.due("with the draft", text(y, 9), "345");
    }

    /** Promise 3: "A file gets the draft, which is empty then, as its text (whether it was there or not)" */
    private static void keepWhetherItWasThereOrNot() {
        CodeShelf x = new CodeShelf();
        due("not there", put(x, 4, FULL), 1);
        due("the draft is empty", x.state(5), 0);
        due("there", put(x, 4, "5"), 2);
        CHECK.due("the whole text is new", text(x, 4), "5");
        due("an empty draft", x.keep(4), 3);
        due("an empty text", x.file(4, 0), 0);
        x.remove(4);
        due("not there any more", put(x, 4, "2"), 5);
        CHECK.due("a text again", text(x, 4), "2");
    }

    /** Promise 4: "REFUSED if it is not there." */
    private static void removeRefuses() {
        CodeShelf x = shelf("", "1"), y = shelf("", "1");
        for (int f : outside(0, 9)) due("remove(" + f + ")", x.remove(f), REFUSED);
        for (int f = 2; f < 10; f++) due("remove(" + f + ")", x.remove(f), REFUSED);
        same("nothing changed", x, y);
        due("one with an empty text is there", x.remove(0), 3);
        due("then it is not", x.remove(0), REFUSED);
        x.sync();
        due("nor after the SYNC", x.remove(0), REFUSED);
        x.remove(1);
        x.crash(0);
        due("one whose removal is lost is there", x.remove(1), 1);
        x.crash(0);
        x.keep(9);
        x.crash(0);
        due("one whose coming is lost is not", x.remove(9), REFUSED);
    }

    /** Promise 6: "CRASH with n (all, if fewer wait)" */
    private static void crashWithMoreThanWait() {
        CodeShelf x = shelf("0", "1", "2"), y = shelf("0", "1", "2");
        for (int n : new int[] {3, 4, 6, 7, 1000, HIGH}) due("crash(" + n + ")", x.crash(n), 0);
        same("all wait", x, y);
        due("one fewer", x.crash(2), 1);
        due("two wait", x.state(0), 2);
        due("none of them", x.crash(0), 2);
        due("none waits", x.state(0), 0);
        due("none is lost", x.crash(0), 0);
    }

    /** Promise 6: "REFUSED if n is below 0" */
    private static void crashRefuses() {
        CodeShelf x = shelf("0", "1", "2"), y = shelf("0", "1", "2");
        for (int n : new int[] {-1, -2, -3, -7, -1000, LOW + 1, LOW}) due("crash(" + n + ")", x.crash(n), REFUSED);
        same("nothing changed", x, y);
        due("also if none waits", new CodeShelf().crash(-1), REFUSED);
    }

    /** Promise 6: "Draft, expression and what was found stay." */
    private static void crashLetsStay() {
        CodeShelf x = shelf("0", "10");
        draft(x, FULL);
        due("search", search(x, "0|()"), 5);
        String found = found(x);
        due("crash", x.crash(0), 2);
        due("no file", x.state(3), 0);
        due("the draft", x.state(5), 40);
        CHECK.due("what was found", found(x), found);
        due("the expression", x.wipe(), 4);
        x.keep(3);
        CHECK.due("the draft's text", text(x, 3), FULL);
        express(x, "0)");
        x.search();
        x.crash(0);
        due("the place", x.place(), 1);
        due("the draft is not given back", x.state(5), 0);
    }

    private static String found(CodeShelf x) {
        StringBuilder all = new StringBuilder();
        for (int k = 0; k < 6; k++) for (int what = 0; what < 4; what++) all.append(x.hit(k, what)).append(' ');
        for (int f = 0; f < 10; f++) all.append(x.opened(f)).append(' ');
        return all.append(x.state(4)).append(' ').append(x.place()).toString();
    }

    /** Promise 7: "all segments become one of their LIVE documents (none, if there are none)" */
    private static void settleToNone() {
        CodeShelf x = new CodeShelf();
        due("nothing", x.settle(), 0);
        due("no segment", x.state(1), 0);
        syncFiles(x, 0, 2);
        syncFiles(x, 3, 4);
        for (int f = 0; f < 5; f++) x.remove(f);
        due("all dead by its SYNC", x.settle(), 0);
        due("no segment", x.state(1), 0);
        due("no document", x.document(0, 0), NONE);
        due("nor a segment's", x.segment(0, 0), NONE);
        due("again", x.settle(), 0);
        x.keep(0);
        due("one", x.settle(), 1);
        sizes("one", x, 1);
        due("its number", x.segment(0, 4), 5);
    }

    /** Promise 7: "how many documents there are" */
    private static void settleAnswersDocuments() {
        CodeShelf x = new CodeShelf();
        syncFiles(x, 0, 3);
        for (int f = 4; f < 10; f++) x.keep(f);
        due("all ten live", x.settle(), 10);
        sizes("one segment", x, 10);
        for (int f = 0; f < 4; f++) x.keep(f);
        x.remove(9);
        x.sync();
        sizes("two segments", x, 10, 4);
        due("the dead go", x.settle(), 9);
        sizes("one again, though 4 is fewer than 10", x, 9);
        due("all of it lives", x.segment(0, 1), 9);
        due("settled already", x.settle(), 9);
        x.remove(0);
        x.sync();
        due("a dead one in a single segment", x.segment(0, 0), 9);
        due("goes too", x.settle(), 8);
        sizes("without it", x, 8);
    }

    /** Promise 8: "NONE if it is not there." */
    private static void fileNotThere() {
        CodeShelf x = shelf("012");
        for (int what = 0; what < 4; what++) {
            for (int f : outside(0, 9)) due("no such file", x.file(f, what), NONE);
            for (int f = 1; f < 10; f++) due("not there", x.file(f, what), NONE);
        }
        x.remove(0);
        for (int what = 0; what < 4; what++) due("not there any more", x.file(0, what), NONE);
        x.keep(9);
        due("there, with an empty text", x.file(9, 0), 0);
        due("a line", x.file(9, 1), 1);
        due("no trigram", x.file(9, 2), 0);
        due("no document", x.file(9, 3), NONE);
    }

    /** Promise 8: "NONE for others." */
    private static void fileOthers() {
        CodeShelf x = shelf("012");
        x.sync();
        for (int what : outside(0, 3)) {
            due("file(0, " + what + ")", x.file(0, what), NONE);
            due("file(1, " + what + ")", x.file(1, what), NONE);
            due("file(10, " + what + ")", x.file(10, what), NONE);
        }
    }

    /** Promise 8: "(also of a file that is not there any more, if the SYNC is still to come); NONE if there is none" */
    private static void liveDocumentOfOneNotThere() {
        CodeShelf x = shelf("0", "1");
        due("none before the SYNC", x.file(1, 3), NONE);
        x.sync();
        due("there", x.file(1, 3), 1);
        x.remove(1);
        due("not there any more", x.file(1, 3), 1);
        due("its text is gone", x.file(1, 0), NONE);
        x.keep(1);
        due("there anew", x.file(1, 3), 1);
        x.crash(1);
        due("not there again", x.file(1, 3), 1);
        x.sync();
        due("none after the SYNC", x.file(1, 3), NONE);
        due("the dead document lies there", x.document(1, 1), 1);
    }

    /** Promise 9: "Character i (from 0) of a file's text; NONE if there is none." */
    private static void atNone() {
        CodeShelf x = shelf(FULL, "", "5");
        due("the first", x.at(0, 0), 0);
        due("the last of 40", x.at(0, 39), 3);
        for (int i : outside(0, 39)) due("at(0, " + i + ")", x.at(0, i), NONE);
        for (int i = 0; i < 3; i++) due("of an empty text", x.at(1, i), NONE);
        due("before the first", x.at(2, -1), NONE);
        due("the only one", x.at(2, 0), 5);
        due("behind the only one", x.at(2, 1), NONE);
        for (int f : outside(0, 9)) due("at(" + f + ", 0)", x.at(f, 0), NONE);
        due("of a file that is not there", x.at(3, 0), NONE);
        due("nor one before", x.at(3, -1), NONE);
        x.remove(0);
        due("of one taken away", x.at(0, 0), NONE);
        put(x, 0, "1");
        due("behind a shorter text", x.at(0, 1), NONE);
    }

    /** Promise 10: "REFUSED if one is no letter" */
    private static void havingRefuses() {
        CodeShelf x = shelf("000555", "060");
        for (int l : outside(0, 5)) {
            due("the first", x.having(l, 0, 0), REFUSED);
            due("the second", x.having(0, l, 0), REFUSED);
            due("the third", x.having(0, 0, l), REFUSED);
        }
        due("6 is none", x.having(0, 6, 0), REFUSED);
        due("nor with 6 at the end", x.having(5, 5, 6), REFUSED);
        due("nor without a file", new CodeShelf().having(0, 0, 6), REFUSED);
        due("the least", x.having(0, 0, 0), 1);
        due("the greatest", x.having(5, 5, 5), 1);
    }

    /** Promise 10: "How many files that are there have a trigram in their texts" */
    private static void havingFilesThatAreThere() {
        CodeShelf x = new CodeShelf();
        due("none", x.having(0, 1, 2), 0);
        for (int f = 0; f < 10; f++) put(x, f, "0120126012");
        due("all ten, each once", x.having(0, 1, 2), 10);
        due("across", x.having(2, 0, 1), 10);
        due("not over the line's end", x.having(1, 2, 2), 0);
        x.remove(0);
        due("one less", x.having(0, 1, 2), 9);
        x.keep(9);
        due("two less", x.having(0, 1, 2), 8);
    }

    /** Promise 11: "NONE if there is none, or for others" */
    private static void segmentNone() {
        CodeShelf x = new CodeShelf();
        for (int what = 0; what < 5; what++) due("no segment yet", x.segment(0, what), NONE);
        syncFiles(x, 0, 1);
        syncFiles(x, 2, 2);
        for (int k : outside(0, 1)) {
            for (int what = 0; what < 5; what++) due("segment(" + k + ", " + what + ")", x.segment(k, what), NONE);
        }
        for (int what : outside(0, 4)) {
            due("segment(0, " + what + ")", x.segment(0, what), NONE);
            due("segment(1, " + what + ")", x.segment(1, what), NONE);
        }
        due("the last", x.segment(1, 4), 2);
        x.remove(2);
        x.sync();
        due("its number though dead", x.segment(1, 4), 2);
        due("none live", x.segment(1, 1), 0);
        x.settle();
        due("no second more", x.segment(1, 0), NONE);
    }

    /** Promise 12: "NONE if there is none, or for others" */
    private static void documentNone() {
        CodeShelf x = new CodeShelf();
        for (int what = 0; what < 4; what++) due("no document yet", x.document(0, what), NONE);
        syncFiles(x, 0, 1);
        syncFiles(x, 2, 2);
        for (int j : outside(0, 2)) {
            for (int what = 0; what < 4; what++) due("document(" + j + ", " + what + ")", x.document(j, what), NONE);
        }
        for (int what : outside(0, 3)) due("document(0, " + what + ")", x.document(0, what), NONE);
        due("the last", x.document(2, 0), 2);
        due("its segment", x.document(2, 3), 1);
        x.remove(0);
        x.settle();
        due("the first has number 1 now", x.document(0, 0), 1);
        due("no third more", x.document(2, 0), NONE);
    }
}
