/**
 * The boundary cases of expressions, searches and what they find: for each sentence of the
 * document that names one, a test of its own, with the sentence above it.
 */
public final class BoundarySearchTest extends Asking {
    public static void main(String[] args) {
        sixteenTokens();
        seqWithoutItems();
        classBits();
        beginningAndEnd();
        anyNumberOfPieces();
        atLeastOne();
        atMostOne();
        atLeastAAndAtMostB();
        sizeOfLeaves();
        sizeOfAlts();
        sizeOfRepeats();
        sizeOfCounts();
        leastPlaceFromP();
        longestPiece();
        oneMoreIfEmpty();
        matchesByLines();
        rowsOfLessThanThreeLetters();
        allTrigramsOfARow();
        firstAndLastTwoLetters();
        headsOfSeqs();
        tailsOfSeqs();
        moreThanEightHeads();
        moreThanEightTails();
        classesOfThreeLetters();
        wordsAreTheEmptyRow();
        claimIsTrue();
        countsThatKeepWords();
        altOfEightWords();
        seqOfEightWords();
        seqOfFiveLetters();
        opensFilesThatAreThere();
        tokenRefuses();
        tokenLooksWhereTheKindNames();
        wipeEmpties();
        syntaxOrLarge();
        largeParts();
        nothingFoundThen();
        searchesAreApart();
        firstWrongToken();
        placeBehindAll();
        placeElseNone();
        fortyHits();
        hitNone();
        openedNone();
        blocksRoundedUp();
        stateOthers();
        CHECK.end("BoundarySearchTest");
    }

    private static final String SIZE54 = "0{33}{33}{33}{22}", SIZE27 = "0{33}{33}{33}", SIZE9 = "0{33}{33}";

    // ---- Terms: expressions

    /** "EXPRESSIONS are rows of up to 16 tokens" */
    private static void sixteenTokens() {
        matches("0123450123450123", "0123450123450123450123", "0:0-16");
        matches("((((((((0))))))))".substring(1, 16), "10", "0:1-2");
        matches("||||||||||||||||", "0", "0:0-0 0:1-1");
        matches("0???????????????", "00", "0:0-1 0:1-2 0:2-2");
        matches("()()()()()()()()", "", "0:0-0");
        matches("(((((((())))))))", "", "0:0-0");
        matches("0?0?0?0?0?0?0?0?", "0".repeat(9), "0:0-8 0:8-9 0:9-9");
        matches("0|1|2|3|4|5|0|1|", "", "0:0-0");
        CodeShelf x = new CodeShelf();
        express(x, "0123450123450123");
        due("no 17th", x.token(0, 4, 0), REFUSED);
        put(x, 0, "0123450123450123");
        due("the first 16 alone are searched for", x.search(), 1);
    }

    /** "a seq pieces of its items side by side (without items the empty one)" */
    private static void seqWithoutItems() {
        matches("", "", "0:0-0");
        matches("()", "0", "0:0-0 0:1-1");
        matches("0|", "", "0:0-0");
        matches("|0", "0", "0:0-1 0:1-1");
        matches("(|)", "", "0:0-0");
        matches("0()1", "001", "0:1-3");
        matches("(|0)1", "101", "0:0-1 0:1-3");
        matches("()*()+()?(){23}0", "00", "0:0-1 0:1-2");
    }

    /** "CLASS one letter l for which bit l of a is 1" and "ANY one letter" */
    private static void classBits() {
        String all = "012345";
        for (int l = 0; l < 6; l++) {
            matches("[" + l + "]", all, "0:" + l + "-" + (l + 1));
            matches("" + l, all, "0:" + l + "-" + (l + 1));
        }
        matches("[012345]+", all, "0:0-6");
        matches(".+", all, "0:0-6");
        matches("[12345]", "0", "");
        matches("[01234]", "5", "");
        matches(".", "", "");
        matches(".", "66", "");
        matches("[012345]", "6", "");
    }

    /** "^ the empty piece at the line's beginning, $ that at its end" */
    private static void beginningAndEnd() {
        matches("^", "", "0:0-0");
        matches("$", "", "0:0-0");
        matches("^$^$", "60", "0:0-0");
        matches("^", "0".repeat(40), "0:0-0");
        matches("$", "0".repeat(40), "0:40-40");
        matches("^0", "10600", "1:0-1");
        matches("0$", "0160060", "1:1-2 2:0-1");
        matches("1^", "11", "");
        matches("$1", "11", "");
        matches("^*0", "00", "0:0-1 0:1-2");
        matches("$+", "0", "0:1-1");
        matches("^{22}0$?", "00", "0:0-1");
        matches("(^0|0$)+", "000", "0:0-1 0:2-3");
        matches("(^0|0$)+", "00", "0:0-2");
    }

    /** "item * any number of pieces of the item side by side" */
    private static void anyNumberOfPieces() {
        matches("0*", "", "0:0-0");
        matches("0*", "1", "0:0-0 0:1-1");
        matches("0*", "0".repeat(40), "0:0-40 0:40-40");
        matches("(01)*", "01010", "0:0-4 0:4-4 0:5-5");
        matches("()*", "0", "0:0-0 0:1-1");
        matches("(0*)*", "00", "0:0-2 0:2-2");
        matches("(()|0)*1", "0001", "0:0-4");
        matches("(00|000)*1", "01", "0:1-2");
        matches("(00|000)*1", "0000001", "0:0-7");
    }

    /** "+ at least one" */
    private static void atLeastOne() {
        matches("0+", "", "");
        matches("0+", "1", "");
        matches("0+", "0", "0:0-1");
        matches("0+", "0".repeat(40), "0:0-40");
        matches("()+", "", "0:0-0");
        matches("(0*)+", "1", "0:0-0 0:1-1");
        matches("(01)+", "0100101", "0:0-2 0:3-7");
        matches("(|00)+1", "0001", "0:1-4");
    }

    /** "? at most one" */
    private static void atMostOne() {
        matches("0?", "", "0:0-0");
        matches("0?", "00", "0:0-1 0:1-2 0:2-2");
        matches("10?1", "1110110011", "0:0-2 0:2-5 0:8-10");
        matches("0??", "00", "0:0-1 0:1-2 0:2-2");
        matches("()?", "", "0:0-0");
        matches("0+?1", "001", "0:0-3");
    }

    /** "COUNT at least a and at most b" (0 <= a <= b <= 3) */
    private static void atLeastAAndAtMostB() {
        String text = "16016001600016000016000001";
        String[][] want = {
            {"1{00}0", "1:0-1 2:0-1 2:1-2 3:0-1 3:1-2 3:2-3 4:0-1 4:1-2 4:2-3 4:3-4 5:0-1 5:1-2 5:2-3 5:3-4 5:4-5"},
            {"^0{00}1", "0:0-1"},
            {"^0{01}1", "0:0-1 1:0-2"},
            {"^0{02}1", "0:0-1 1:0-2 2:0-3"},
            {"^0{03}1", "0:0-1 1:0-2 2:0-3 3:0-4"},
            {"^0{11}1", "1:0-2"},
            {"^0{12}1", "1:0-2 2:0-3"},
            {"^0{13}1", "1:0-2 2:0-3 3:0-4"},
            {"^0{22}1", "2:0-3"},
            {"^0{23}1", "2:0-3 3:0-4"},
            {"^0{33}1", "3:0-4"},
            {"^0{22}{22}1", "4:0-5"},
            {"^(0?){33}1", "0:0-1 1:0-2 2:0-3 3:0-4"},
            {"^(|0){23}1", "0:0-1 1:0-2 2:0-3 3:0-4"},
            {"^(^|0){33}1", "0:0-1 1:0-2 2:0-3 3:0-4"},
            {"^(0*){33}1", "0:0-1 1:0-2 2:0-3 3:0-4 4:0-5 5:0-6"},
            {"^0{33}{00}1", "0:0-1"},
        };
        for (String[] w : want) matches(w[0], text, w[1]);
    }

    // ---- Terms: SIZE, of which 60 is not above 60

    /** "The SIZE is 1 for LETTER, ANY, CLASS, ^ and $; the sum for a seq" */
    private static void sizeOfLeaves() {
        for (String leaf : new String[] {"0", ".", "[0]", "[012345]", "^", "$"}) {
            answers(SIZE54 + "00000" + leaf, 0);
            answers(SIZE54 + "000000" + leaf, LARGE);
            answers(leaf + SIZE54 + "00000", 0);
            answers(leaf + SIZE54 + "000000", LARGE);
        }
        answers(SIZE54 + "000000()()", 0);
        answers(SIZE54 + "000000()0", LARGE);
    }

    /** "the sum and 2 for each | of an alt" */
    private static void sizeOfAlts() {
        answers(SIZE54 + "|0000", 0);
        answers(SIZE54 + "|00000", LARGE);
        answers(SIZE54 + "|0|0", 0);
        answers(SIZE54 + "|0|00", LARGE);
        answers(SIZE54 + "|||", 0);
        answers(SIZE54 + "|||0", LARGE);
        answers("|||" + SIZE54, 0);
        answers("0|||" + SIZE54, LARGE);
        answers("0(" + SIZE54 + "|000)", 0);
        answers("0(" + SIZE54 + "|000)0", LARGE);
    }

    /** "the item's and 2 for *, and 1 for + and ?" */
    private static void sizeOfRepeats() {
        answers("(" + SIZE54 + "0000)*", 0);
        answers("(" + SIZE54 + "00000)*", LARGE);
        answers("(" + SIZE54 + "00000)+", 0);
        answers("(" + SIZE54 + "000000)+", LARGE);
        answers("(" + SIZE54 + "00000)?", 0);
        answers("(" + SIZE54 + "000000)?", LARGE);
        answers(SIZE54 + "***", 0);
        answers(SIZE54 + "***+", LARGE);
        answers(SIZE54 + "++++++", 0);
        answers(SIZE54 + "+++++++", LARGE);
        answers(SIZE54 + "??????", 0);
        answers(SIZE54 + "???????", LARGE);
    }

    /** "b times the item's, and b - a, for COUNT" */
    private static void sizeOfCounts() {
        answers("(" + SIZE27 + "000){22}", 0);
        answers("(" + SIZE27 + "000){12}", LARGE);
        answers("(" + SIZE27 + "00){02}", 0);
        answers("(" + SIZE27 + "00){02}0", LARGE);
        answers("(" + SIZE27 + "00){12}0", 0);
        answers("(" + SIZE27 + "00){12}00", LARGE);
        answers("(" + SIZE9 + SIZE9 + "00){33}", 0);
        answers("(" + SIZE9 + SIZE9 + "00){23}", LARGE);
        answers("(" + SIZE9 + SIZE9 + "0){03}", 0);
        answers("(" + SIZE9 + SIZE9 + "0){03}0", LARGE);
        answers("(" + SIZE9 + SIZE9 + "0){13}0", 0);
        answers("(" + SIZE9 + SIZE9 + "0){13}00", LARGE);
        answers("(" + SIZE54 + "000000){11}", 0);
        answers("(" + SIZE54 + "000000){01}", LARGE);
        answers("(" + SIZE54 + "00000){01}", 0);
        answers("(" + SIZE54 + "000000){00}", 0);
        answers("(" + SIZE54 + "){00}" + SIZE54, 0);
        answers("(" + SIZE54 + "){11}" + SIZE27, LARGE);
        answers("(){33}{33}{33}{33}{33}{33}", 0);
        // of nothing, COUNT 0 3 has SIZE 3
        answers("(){03}{33}{33}{22}000000", 0);
        answers("(){03}{33}{33}{22}0000000", LARGE);
        answers("0" + "{33}".repeat(15), LARGE);
    }

    // ---- Terms: MATCHES

    /** "P is 0 at first. The next one begins at the least place from P on where a piece begins" */
    private static void leastPlaceFromP() {
        matches("0", "0".repeat(3), "0:0-1 0:1-2 0:2-3");
        matches("0", "1".repeat(39) + "0", "0:39-40");
        matches("12|0123", "0123", "0:0-4");
        matches("010", "01010", "0:0-3");
        matches("00", "00000", "0:0-2 0:2-4");
        matches("0", "", "");
    }

    /** "and is the longest such piece there" */
    private static void longestPiece() {
        matches("0|00|000", "0000", "0:0-3 0:3-4");
        matches("000|00|0", "0000", "0:0-3 0:3-4");
        matches("(0|01)(1|)", "011", "0:0-3");
        matches("(0|01)(12|)", "012", "0:0-3");
        matches("()|0", "0", "0:0-1 0:1-1");
        matches(".*", "0".repeat(40), "0:0-40 0:40-40");
        matches(".", "0".repeat(40), places());
    }

    private static String places() {
        StringBuilder all = new StringBuilder("0:0-1");
        for (int i = 1; i < 40; i++) all.append(" 0:").append(i).append('-').append(i + 1);
        return all.toString();
    }

    /** "P is its end then, or one more if it is empty; and so on, as long as there is one" */
    private static void oneMoreIfEmpty() {
        matches("", "", "0:0-0");
        matches("", "01", "0:0-0 0:1-1 0:2-2");
        matches("0*", "1", "0:0-0 0:1-1");
        matches("0*", "0", "0:0-1 0:1-1");
        matches("1*", "0110", "0:0-0 0:1-3 0:3-3 0:4-4");
        matches("1*$", "011", "0:1-3 0:3-3");
        matches("^1*", "110", "0:0-2");
        matches("^|0$", "00", "0:0-0 0:1-2");
        CodeShelf x = new CodeShelf();
        put(x, 0, "0".repeat(40));
        due("40 letters have 41 places", search(x, ""), 41);
    }

    /** "finds the MATCHES in all their lines, by files, lines and places" */
    private static void matchesByLines() {
        matches("0*", "6", "0:0-0 1:0-0");
        matches("01", "0601", "1:0-2");
        matches("0+", "0060600600", "0:0-2 1:0-1 2:0-2 3:0-2");
        matches("0", "6660", "3:0-1");
        matches("0", "0666", "0:0-1");
        matches("00", "06060", "");
        CodeShelf x = new CodeShelf();
        put(x, 9, "0");
        put(x, 0, "600");
        put(x, 5, "6660");
        due("search", search(x, "0"), 4);
        int[][] want = {{0, 1, 0, 1}, {0, 1, 1, 2}, {5, 3, 0, 1}, {9, 0, 0, 1}};
        for (int k = 0; k < 4; k++) {
            for (int what = 0; what < 4; what++) due("hit(" + k + ", " + what + ")", x.hit(k, what), want[k][what]);
        }
    }

    // ---- Terms: WHAT A TEXT MUST HAVE

    /** "SOME(W) .. is true of a text if W has a row of less than three letters" */
    private static void rowsOfLessThanThreeLetters() {
        opens("", "", true);
        opens("0", "", true);
        opens("01", "", true);
        opens("012", "", false);
        opens("012", "01", false);
        opens("012|01", "", true);
        opens("012|345|5", "", true);
        opens("012|345", "", false);
        opens("012?", "", true);
        opens("012|", "", true);
    }

    /** "or one all of whose trigrams the text has" */
    private static void allTrigramsOfARow() {
        opens("012", "012", true);
        opens("555", "555", true);
        opens("000", "000", true);
        opens("0123", "012", false);
        opens("0123", "123", false);
        opens("0123", "0126123", true);
        opens("01234", "01261236234", true);
        opens("01234", "01261236034", false);
        opens("01234", "01262346123", true);
        opens("01234", "12362346", false);
        opens("0123|4501", "0126501", false);
        opens("0123|4501", "4506501", true);
        opens("012", "5".repeat(37) + "012", true);
        opens("012", "5".repeat(36) + "0162", false);
    }

    /** "HEADS are the first two letters of each (all, if it has less), TAILS the last two" */
    private static void firstAndLastTwoLetters() {
        opens("55(0+)", "550", true);
        opens("55(0+)", "5", false);
        opens("55(01)+", "5506501", true);
        opens("55(01)+", "550", false);
        opens("55(012)+", "55065016012", true);
        opens("55(012)+", "5506012", false);
        opens("(0+)55", "055", true);
        opens("(0+)55", "55", false);
        opens("(01)+55", "0156155", true);
        opens("(01)+55", "155", false);
        opens("(012)+55", "01261256255", true);
        opens("(012)+55", "0126255", false);
        opens("55()+", "", true);
        opens("55()+5", "", true);
        // no more than two: the third letter of the one word need not stand behind 55
        opens("55(012|345)+", "55016345", true);
        opens("55(012|345)+", "5501", false);
        opens("(012|345)+(55)", "01264555", true);
        opens("(012|345)+(55)", "4555", false);
        // HEADS of a seq: all of a row that has less than two letters
        opens("55((0|)1+)", "551", true);
        opens("55((0|)1+)", "5506501", true);
        opens("55((0|)1+)", "550", false);
        opens("(1+(0|))(55)", "155", true);
        opens("(1+(0|))(55)", "1056055", true);
        opens("(1+(0|))(55)", "055", false);
    }

    /** "HEADS are, if WORDS of x are known, the first two letters (all, if less) of the rows .., else HX" */
    private static void headsOfSeqs() {
        opens("33(5(04)+)", "3356504", false);
        opens("33(5(04)+)", "33563506504", true);
        opens("33(5+(04)+)", "3356504", true);
        opens("33(5(041)+)", "335635065046041", true);
        opens("33(5(041)+)", "335635465046041", false);
        opens("2((23|45)[01]+)", "2236450", true);
        opens("2((23|45)[01]+)", "2236235", false);
        opens("55(01+|23+)", "5506501", true);
        opens("55(01+|23+)", "5526523", true);
        opens("55(01+|23+)", "5516553", false);
    }

    /** "TAILS are, if WORDS of y are known, the last two of the rows of one of TX and one of these, else TY" */
    private static void tailsOfSeqs() {
        opens("((40)+5)(33)", "4056533", false);
        opens("((40)+5)(33)", "40560536533", true);
        opens("((40)+5+)(33)", "4056533", true);
        opens("([01]+(23|45))2", "0236452", true);
        opens("([01]+(23|45))2", "0236352", false);
        opens("(5(012)+)(33)", "501601261236233", true);
        opens("(5(012)+)(33)", "501601260136133", false);
        opens("(0+1|2+3)(55)", "0156155", true);
        opens("(0+1|2+3)(55)", "2356355", true);
        opens("(0+1|2+3)(55)", "0556255", false);
    }

    /** "Each time when HEADS would be more than 8 rows, they are just the empty row" */
    private static void moreThanEightHeads() {
        // an alt: 00 01 10 11 20 21 30 40, and 00 once more or 4
        opens("55([012][01]|[34]0|(00)+)", "", false);
        opens("55([012][01]|[34]0|(00)+)", "5506500", true);
        opens("55([012][01]|[34]0|4+)", "", true);
        // a seq: eight and nine rows of two letters
        opens("55((0|1)([012]|3)5+)", "", false);
        opens("55((0|1)([012]|3)5+)", "55065006005", true);
        opens("55([012][012]5+)", "", true);
        // HEADS for themselves: the TAILS of these are one row, 5
        opens("([012][012]5+)44", "", false);
        opens("([012][012]5+)44", "544", true);
    }

    /** "so also TAILS, each of the two for itself" */
    private static void moreThanEightTails() {
        opens("([012][01]|[34]0|(00)+)55", "", false);
        opens("([012][01]|[34]0|(00)+)55", "0056055", true);
        opens("([012][01]|[34]0|4+)55", "", true);
        // a seq: of eight TAILS one stands before 55, of nine none need
        opens("(5+(0|1)([012]|3))55", "500", false);
        opens("(5+(0|1)([012]|3))55", "50060056055", true);
        opens("(5+[012][012])55", "500", true);
        // TAILS for themselves: the HEADS of these are one row, 5
        opens("44(5+[012][012])", "500", false);
        opens("44(5+[012][012])", "5006445", true);
    }

    /** "LETTER, and CLASS of at most three letters: WORDS are these letters." */
    private static void classesOfThreeLetters() {
        opens("01[2]", "", false);
        opens("01[345]", "", false);
        opens("01[345]", "015", true);
        opens("01[345]", "012", false);
        opens("01[2345]", "", true);
        opens("[012]34", "", false);
        opens("[012]34", "234", true);
        opens("[0123]45", "", true);
        opens("[012345]45", "", true);
        opens(".45", "", true);
    }

    /** "^, $, COUNT 0 0, and a seq without items: WORDS are the empty row." */
    private static void wordsAreTheEmptyRow() {
        for (String nothing : new String[] {"^", "$", "5{00}", ".{00}", "()", "(.*){00}", "(^$)"}) {
            opens("01" + nothing + "2", "", false);
            opens("01" + nothing + "2", "012", true);
            opens(nothing + "012", "", false);
            opens("012" + nothing, "012", true);
            opens("012|" + nothing, "", true);
            opens("0" + nothing + "12345", "12362346345", false);
        }
    }

    /** "ANY, other CLASSes, *, and COUNT 0 b otherwise: .. HEADS and TAILS are the empty row; the CLAIM is true." */
    private static void claimIsTrue() {
        for (String free : new String[] {".", "[0123]", "2*", "(012)*", "2{01}", "(012){01}", "(012){02}", "(012){03}"}) {
            opens(free, "", true);
            opens("01" + free, "", true);
            opens(free + "01", "", true);
            opens("01" + free + "23", "", true);
            opens("345" + free, "", false);
            opens("345" + free + "345", "345", true);
        }
    }

    /** "COUNT 1 1: as its item. + and any other COUNT with a above 0: no WORDS known" */
    private static void countsThatKeepWords() {
        opens("01{11}23", "123", false);
        opens("01{11}23", "0126123", true);
        for (String repeat : new String[] {"+", "{12}", "{13}", "{22}", "{23}", "{33}"}) {
            opens("01" + repeat + "23", "123", true);
            opens("01" + repeat + "23", "012", false);
            opens("(012)" + repeat, "", false);
            opens("(012)" + repeat, "012", true);
        }
        opens("(.){11}", "", true);
        opens("55(0+){11}", "", false);
        opens("55(0+){11}", "550", true);
    }

    /** alt: "if WORDS of both are known, and are together at most 8 different ones" */
    private static void altOfEightWords() {
        opens("(01[012]|01[345]|02[01])5", "010", false);
        opens("(01[012]|01[345]|02[01])5", "0106105", true);
        opens("(01[012]|01[345]|02[012])5", "010", true);
        opens("(01[012]|01[345]|02[012])5", "", false);
        opens("5(01[012]|01[345]|02[012])", "010", false);
        opens("5(01[012]|01[345]|02[012])", "0106502", true);
        // six different ones, some of them twice
        opens("(01[012]|01[345]|01[012])5", "010", false);
        // nine are not known, nor are they with one more
        opens("(01[012]|01[345]|02[012]|0)", "", true);
        // of both
        opens("012|.", "", true);
        opens(".|012", "", true);
        opens("012|3+45", "345", true);
        opens("3+45|012", "012", true);
        opens("3+45|012", "034", false);
    }

    /** seq: "the rows of one of x and one of y behind it are at most 8 different ones" */
    private static void seqOfEightWords() {
        opens("4(0|1)([012]|3)5", "400", false);
        opens("4(0|1)([012]|3)5", "4006005", true);
        opens("4[012][012]5", "400", true);
        opens("4[012][012]5", "", false);
        opens("[01][01][01]5", "0006115", false);
        opens("[01][01][012]5", "0006115", true);
        // 0 or 1 with none to three 0s behind it: in twelve ways, but eight different ones, so that
        // HEADS, with 5+ behind it, are of two letters all
        opens("5([01]0?0?0?5+)", "", false);
        opens("5([01]0?0?0?5+)", "515", true);
        opens("5([01]0?0?0?)", "", true);
    }

    /** seq: "with at most 5 letters each" */
    private static void seqOfFiveLetters() {
        opens("(0003|1112)5", "00036125", false);
        opens("(0003|1112)5", "0003635", false);
        opens("(0003|1112)5", "00036035", true);
        opens("(00033|11122)5", "000336225", true);
        opens("(00033|11122)5", "00033", false);
        // one row that is longer is enough
        opens("(0003|11122)5", "00036225", true);
    }

    /** "A search OPENS the files that are there of whose texts the CLAIM .. is true" */
    private static void opensFilesThatAreThere() {
        CodeShelf x = new CodeShelf();
        due("no file", search(x, ""), 0);
        for (int f = 0; f < 10; f++) CHECK.due("none is opened", x.opened(f), false);
        for (int f = 0; f < 10; f++) x.keep(f);
        due("ten empty texts", x.search(), 10);
        for (int f = 0; f < 10; f++) CHECK.due("all are opened", x.opened(f), true);
        due("of no blocks", x.state(4), 0);
        x.remove(0);
        x.remove(9);
        due("eight are there", x.search(), 8);
        CHECK.due("not the first", x.opened(0), false);
        CHECK.due("not the last", x.opened(9), false);
        due("none has it", search(x, "000"), 0);
        for (int f = 0; f < 10; f++) CHECK.due("none is opened", x.opened(f), false);
    }

    // ---- the promises

    private static CodeShelf searched() {
        CodeShelf x = new CodeShelf();
        put(x, 0, "010");
        put(x, 4, "60");
        search(x, "0|1");
        return x;
    }

    /** Promise 13: "REFUSED if there is no such kind, a or b is not as said, or there are 16." */
    private static void tokenRefuses() {
        CodeShelf x = searched(), y = searched();
        for (int kind : outside(0, 11)) due("kind " + kind, x.token(kind, 1, 1), REFUSED);
        for (int a : outside(0, 5)) due("LETTER " + a, x.token(0, a, 0), REFUSED);
        due("LETTER 32", x.token(0, 32, 0), REFUSED);
        for (int a : outside(1, 63)) due("CLASS " + a, x.token(2, a, 0), REFUSED);
        for (int a : outside(0, 3)) due("COUNT " + a + " 3", x.token(9, a, 3), REFUSED);
        for (int b : outside(0, 3)) due("COUNT 0 " + b, x.token(9, 0, b), REFUSED);
        for (int a = -1; a <= 4; a++) {
            for (int b = -1; b <= 4; b++) {
                if (a < 0 || a > b || b > 3) due("COUNT " + a + " " + b, x.token(9, a, b), REFUSED);
            }
        }
        same("nothing changed", x, y);
        due("three tokens", x.wipe(), 3);
        CodeShelf z = new CodeShelf();
        for (int n = 1; n <= 16; n++) due("token", z.token(1, 0, 0), n);
        for (int kind = 0; kind < 12; kind++) due("a 17th", z.token(kind, 1, 1), REFUSED);
        due("16 there are", z.wipe(), 16);
        due("the first again", z.token(1, 0, 0), 1);
    }

    /** Promise 13: "a and b are looked at where the kind names them" */
    private static void tokenLooksWhereTheKindNames() {
        for (int kind : new int[] {1, 3, 4, 5, 6, 7, 8, 10, 11}) {
            CodeShelf x = new CodeShelf();
            due("kind " + kind, x.token(kind, LOW, HIGH), 1);
            due("kind " + kind, x.token(kind, HIGH, LOW), 2);
            due("kind " + kind, x.token(kind, -1, -1), 3);
        }
        CodeShelf x = new CodeShelf();
        due("LETTER has no b", x.token(0, 0, LOW), 1);
        due("LETTER has no b", x.token(0, 5, HIGH), 2);
        due("CLASS has no b", x.token(2, 1, LOW), 3);
        due("CLASS has no b", x.token(2, 63, HIGH), 4);
        x.wipe();
        int n = 0;
        for (int a = 0; a <= 3; a++) {
            for (int b = a; b <= 3; b++) {
                n++;
                due("COUNT " + a + " " + b, x.token(9, a, b), n);
            }
        }
        CodeShelf y = new CodeShelf();
        put(y, 0, "000");
        y.token(1, -9, 99);
        y.token(7, 0, 0);
        due("they change nothing", y.search(), 1);
        due("as if not there", y.hit(0, 3), 3);
    }

    /** Promise 14: "Empties the expression: how many tokens it had." */
    private static void wipeEmpties() {
        CodeShelf x = searched(), y = searched();
        due("three", x.wipe(), 3);
        due("none", x.wipe(), 0);
        same("what was found stays", x, y);
        due("the empty expression is searched for", x.search(), 7);
        for (int n = 0; n < 16; n++) x.token(5, 0, 0);
        due("sixteen", x.wipe(), 16);
        due("none", x.wipe(), 0);
        due("the first again", x.token(0, 0, 0), 1);
    }

    /** Promise 15: "SYNTAX: it is no alt. LARGE: else, if the SIZE of a part, or of it all, is above 60" */
    private static void syntaxOrLarge() {
        answers("0{33}{33}{33}{33})", SYNTAX);
        answers("0{33}{33}{33}{33}(", SYNTAX);
        answers("*0{33}{33}{33}{33}", SYNTAX);
        answers("(0{33}{33}{33}{33}", SYNTAX);
        answers("(0{33}{33}{33}{33})", LARGE);
        answers("", 0);
        answers("(", SYNTAX);
    }

    /** Promise 15: "a part being an atom with the first, none or more, of what * + ? COUNT stand behind it, .." */
    private static void largeParts() {
        String size60 = SIZE54 + "000000", size61 = SIZE54 + "0000000";
        answers(size60, 0);
        answers(size61, LARGE);
        // an atom, with none behind it
        answers("(" + size60 + "){00}", 0);
        answers("(" + size61 + "){00}", LARGE);
        // an atom with the first of what stands behind it
        answers(SIZE54 + "???+++{00}", 0);
        answers(SIZE54 + "???++++{00}", LARGE);
        answers("0{33}{33}{33}{33}{00}", LARGE);
        answers("0{33}{33}{33}{33}{00}{33}", LARGE);
        answers("0{33}{33}{33}{00}{33}{33}", 0);
        // the first items of a seq, and the first seqs of an alt
        answers("(" + SIZE54 + "00000.){00}00", 0);
        answers("(" + SIZE54 + "000000.){00}0", LARGE);
        answers("(" + SIZE54 + "|0000){00}00", 0);
        answers("(" + SIZE54 + "|00000){00}0", LARGE);
        answers("(" + SIZE54 + "|||){00}|||||", 0);
        answers("(" + SIZE54 + "||||){00}||", LARGE);
    }

    /** Promise 15: "With these nothing is found and opened." */
    private static void nothingFoundThen() {
        CodeShelf x = searched();
        due("found before", x.hit(0, 0), 0);
        express(x, "0{33}{33}{33}{33}");
        due("found still", x.hit(0, 0), 0);
        due("large", x.search(), LARGE);
        nothingFound(x);
        due("found again", search(x, "0"), 3);
        due("syntax", search(x, "("), SYNTAX);
        nothingFound(x);
        due("the expression stays", x.wipe(), 1);
        due("files stay", x.state(3), 2);
    }

    /** Promise 16: "the first token (from 0) with which, and those before it, no alt begins" */
    private static void firstWrongToken() {
        for (String repeat : new String[] {"*", "+", "?", "{00}", "{33}"}) {
            syntax(repeat, 0);
            syntax("(" + repeat, 1);
            syntax("0|" + repeat, 2);
            syntax("(0|" + repeat + ")", 3);
            syntax("|" + repeat + repeat, 1);
            answers("0" + repeat + repeat, 0);
            answers("()" + repeat, 0);
            answers("^" + repeat + "$" + repeat, 0);
        }
        syntax(")", 0);
        syntax("0)", 1);
        syntax("())", 2);
        syntax("(()))(", 4);
        syntax("01234501234501*)", 15);
        syntax("000000000000000)", 15);
        syntax("000000000000(*00", 13);
        syntax("*)", 0);
        syntax(")*", 0);
        syntax("(*", 1);
    }

    /** Promise 16: "however many tokens that might have; how many tokens there are, if there is no such one" */
    private static void placeBehindAll() {
        syntax("(", 1);
        syntax("(0", 2);
        syntax("(0|", 3);
        syntax("(()", 3);
        syntax("0((", 3);
        // no row of 16 tokens closes these, but longer ones would
        syntax("((((((((((((((((", 16);
        syntax("(((((((((000000*", 16);
        syntax("000000000000000(", 16);
        syntax("0000000000000((0", 16);
    }

    /** Promise 16: "The place told by the latest search, if that was SYNTAX: .. else NONE." */
    private static void placeElseNone() {
        CodeShelf x = new CodeShelf();
        due("no search yet", x.place(), NONE);
        express(x, "0)");
        due("still none", x.place(), NONE);
        x.search();
        due("told", x.place(), 1);
        x.wipe();
        due("told still", x.place(), 1);
        x.search();
        due("none of an alt", x.place(), NONE);
        search(x, "(");
        due("told", x.place(), 1);
        search(x, "0{33}{33}{33}{33}");
        due("none of a LARGE one", x.place(), NONE);
        search(x, "(((");
        x.search();
        due("told twice", x.place(), 3);
    }

    /** Promise 15: "Searches by the expression (which stays)": each search as if it were the first. */
    private static void searchesAreApart() {
        CodeShelf x = new CodeShelf();
        put(x, 7, "550601");
        String[] expressions = {"55([012][012]5+)", "55(01+)", "55(0+)", "0|1", "(", "55[0123]", "012", "0{33}{33}{33}{33}", "",
            "5+(50)", "0+(50)", "(55)0+", "(55)1+"};
        int[] want = {0, 0, 1, 3, SYNTAX, 1, 0, LARGE, 7, 1, 0, 1, 0};
        boolean[] opened = {true, false, true, true, false, true, false, false, true, true, false, true, false};
        for (int i = 0; i < expressions.length; i++) {
            due("search of " + expressions[i], search(x, expressions[i]), want[i]);
            CHECK.due("opened by " + expressions[i], x.opened(7), opened[i]);
            due("the same again", x.search(), want[i]);
            CHECK.due("opened again", x.opened(7), opened[i]);
            due("the blocks", x.state(4), opened[i] ? 1 : 0);
        }
    }

    /** Promise 17: "match k (from 0; the first 40 are kept)" */
    private static void fortyHits() {
        CodeShelf x = new CodeShelf();
        for (int f = 0; f < 10; f++) put(x, f, "6".repeat(40));
        due("41 in each of ten files", x.search(), 410);
        due("the first", x.hit(0, 1), 0);
        due("the last that is kept", x.hit(39, 1), 39);
        for (int what = 0; what < 4; what++) due("the 41st", x.hit(40, what), NONE);
        due("the 410th", x.hit(409, 0), NONE);
        CodeShelf y = new CodeShelf();
        put(y, 2, "0".repeat(20));
        put(y, 3, "0".repeat(20));
        due("forty", search(y, "0"), 40);
        int[] last = {3, 0, 19, 20};
        for (int what = 0; what < 4; what++) due("the fortieth", y.hit(39, what), last[what]);
        put(y, 4, "0");
        due("forty-one", y.search(), 41);
        for (int what = 0; what < 4; what++) due("the fortieth", y.hit(39, what), last[what]);
        due("the 41st", y.hit(40, 0), NONE);
        y.remove(2);
        due("twenty-one", y.search(), 21);
        due("the last", y.hit(20, 0), 4);
        due("none of those before", y.hit(21, 0), NONE);
    }

    /** Promise 17: "NONE if there is none, or for others" */
    private static void hitNone() {
        CodeShelf x = searched();
        int[] last = {4, 1, 0, 1};
        for (int what = 0; what < 4; what++) {
            due("the last", x.hit(3, what), last[what]);
            for (int k : outside(0, 3)) due("hit(" + k + ", " + what + ")", x.hit(k, what), NONE);
            due("of no search", new CodeShelf().hit(0, what), NONE);
        }
        for (int what : outside(0, 3)) for (int k = 0; k < 4; k++) due("hit(" + k + ", " + what + ")", x.hit(k, what), NONE);
    }

    /** Promise 18: "Whether the latest search opened a file." */
    private static void openedNone() {
        CodeShelf x = searched();
        for (int f : outside(0, 9)) CHECK.due("opened(" + f + ")", x.opened(f), false);
        for (int f = 0; f < 10; f++) {
            CHECK.due("opened(" + f + ")", x.opened(f), f == 0 || f == 4);
            CHECK.due("before a search", new CodeShelf().opened(f), false);
        }
        x.remove(4);
        x.sync();
        CHECK.due("one that is gone since", x.opened(4), true);
        x.search();
        CHECK.due("not by a search after", x.opened(4), false);
        search(x, "5");
        CHECK.due("without a match", x.opened(0), true);
        search(x, "555");
        CHECK.due("not without its trigram", x.opened(0), false);
    }

    /** Promise 19: "of each file opened the length of its text by 8, rounded up" */
    private static void blocksRoundedUp() {
        int[][] want = {{0, 0}, {1, 1}, {7, 1}, {8, 1}, {9, 2}, {16, 2}, {17, 3}, {39, 5}, {40, 5}};
        for (int[] w : want) {
            CodeShelf x = new CodeShelf();
            put(x, 6, "0".repeat(w[0]));
            x.search();
            due("blocks of " + w[0], x.state(4), w[1]);
        }
        CodeShelf x = new CodeShelf();
        for (int f = 0; f < 10; f++) put(x, f, "1".repeat(f == 0 ? 1 : 40));
        due("before a search", x.state(4), 0);
        x.search();
        due("each rounded for itself", x.state(4), 46);
        search(x, "111");
        due("of those opened", x.state(4), 45);
        search(x, "000");
        due("of none", x.state(4), 0);
    }

    /** Promise 19: "NONE for others" */
    private static void stateOthers() {
        CodeShelf x = searched();
        for (int what : outside(0, 5)) due("state(" + what + ")", x.state(what), NONE);
        int[] want = {2, 0, 0, 2, 2, 0};
        for (int what = 0; what < 6; what++) due("state(" + what + ")", x.state(what), want[what]);
    }
}
