/** "Terms", the first part: each sentence that names a bound of letters, rows, cells, doors, wells and FAULTS. */
public final class SlopeEdgesTest extends Hand {
    private static final String LEAST = "ax/..";
    private static final String GREATEST = "abc../...../...../...../...../..xyz";

    public static void main(String[] args) {
        fortyEightAtMost();
        rowsTwoToSix();
        rowsOfAsManyCells();
        cellsTwoToFive();
        eachLetter();
        eachAtMostOnce();
        firstLetterThatCannotGoOn();
        theEndIfSomethingLacks();
        formAheadOfDoors();
        doorsAndWells();
        lettersAreNoMore();
        slopeStaysWithAFault();
        cellsByColumns();
        CHECK.end("SlopeEdgesTest");
    }

    private static int fault(String text) {
        return tell(new NeverCross(), text);
    }

    private static void dueFault(String text, int want) {
        due("slope() of " + text, fault(text), want);
    }

    private static void fortyEightAtMost() {
        sentence("letters, one by one (48 at most)");
        NeverCross x = new NeverCross();
        for (int n = 1; n <= 48; n++) {
            due("letter " + n, x.letter(GREATEST.charAt(Math.min(n, 35) - 1)), n);
        }
        due("the 49th", x.letter('.'), -6);
        due("how many there are", x.count(5), 48);
        due("the letters beyond the slope are a FAULT", x.slope(), -1035);
        due("letters after it", x.letter('a'), 1);
    }

    private static void rowsTwoToSix() {
        sentence("2 .. 6 ROWS");
        dueFault("ax", -1002);
        dueFault("a...x", -1005);
        String[] texts = {LEAST, "ax/../..", "ax/../../..", "ax/../../../..", "ax/../../../../.."};
        for (int rows = 2; rows <= 6; rows++) {
            NeverCross x = told(texts[rows - 2]);
            due("ROWS of " + texts[rows - 2], x.count(0), rows);
        }
        dueFault("ax/../../../../../", -1017);
        dueFault("ax/../../../../../..", -1017);
        dueFault(GREATEST + "/", -1035);
        dueFault(GREATEST + "/.....", -1035);
    }

    private static void rowsOfAsManyCells() {
        sentence("ROWS of as many CELLS each");
        dueFault("a../.x/...", -1006);
        dueFault("a../.x", -1006);
        dueFault("a../..x.", -1007);
        dueFault("a../..x./...", -1007);
        dueFault("a../..x#", -1007);
        dueFault("a./.x/../../../.", -1016);
        dueFault("a./.x/../../../...", -1017);
        dueFault("a.../...x/....", 12);
    }

    private static void cellsTwoToFive() {
        sentence("CELLS, 2 .. 5");
        dueFault("a", -1001);
        dueFault("a/", -1001);
        dueFault("a/x", -1001);
        String[] texts = {"a./.x", "a../..x", "a.../...x", "a..../....x"};
        for (int columns = 2; columns <= 5; columns++) {
            NeverCross x = told(texts[columns - 2]);
            due("COLUMNS of " + texts[columns - 2], x.count(1), columns);
            due("ROWS of " + texts[columns - 2], x.count(0), 2);
        }
        dueFault("a.....", -1005);
        dueFault("a...../.....x", -1005);
        dueFault("a....#/.....x", -1005);
        due("the least slope", fault(LEAST), 4);
        due("the greatest slope", fault(GREATEST), 30);
    }

    /** Each of the 256 letters in a place where each CELL may stand. */
    private static void eachLetter() {
        sentence("'.' a cell of COST 0, a digit 1 .. 9, '#' STONE, 'a' 'b' 'c', 'x' 'y' 'z'");
        for (int c = 0; c < 256; c++) {
            NeverCross x = new NeverCross();
            x.letter('a');
            due("letter(" + c + ")", x.letter(c), 2);
            int got = tell(x, "/.x");
            boolean plain = c == '.' || c == '#' || c >= '1' && c <= '9';
            boolean alone = c == 'b' || c == 'c' || c == 'y' || c == 'z';
            due("letter " + c, got, plain ? 4 : alone ? -2000 : c == 'x' ? -1004 : -1001);
            if (plain) {
                due("what is there, " + c, x.cell(1, 0), c == '#' ? 1 : 0);
                due("its COST, " + c, x.cell(1, 1), c >= '1' && c <= '9' ? c - '0' : 0);
                due("its number, " + c, x.cell(1, 2), -9);
                due("STONES, " + c, x.count(3), c == '#' ? 1 : 0);
            }
        }
        NeverCross x = told("abc/xyz");
        for (int cell = 0; cell < 6; cell++) {
            due("DOORS and WELLS, " + cell, x.cell(cell, 0), cell < 3 ? 2 : 3);
            due("COST of DOORS and WELLS is 0, " + cell, x.cell(cell, 1), 0);
            due("numbers of DOORS and WELLS, " + cell, x.cell(cell, 2), cell % 3);
        }
    }

    private static void eachAtMostOnce() {
        sentence("each at most once");
        for (char c : "abcxyz".toCharArray()) {
            dueFault("" + c + c + "/..", -1001);
            dueFault(c + "./" + c + ".", -1003);
            dueFault(".../.." + c + "/.." + c, -1010);
            dueFault("abc/xyz/.." + c, -1010);
            dueFault(c + "....", -1005);
        }
    }

    private static void firstLetterThatCannotGoOn() {
        sentence("the place of the first letter with which no SLOPE can go on");
        dueFault("/", -1000);
        dueFault("0", -1000);
        dueFault("qq", -1000);
        dueFault("a0/.x", -1001);
        dueFault("a./", -1003);
        dueFault("a.//.x", -1003);
        dueFault("a./q0a", -1003);
        dueFault("a./aq", -1003);
        dueFault("a./.x//", -1006);
        dueFault("a./.x/q", -1006);
        dueFault(GREATEST.substring(0, 34) + "q", -1034);
        dueFault(GREATEST.substring(0, 34) + "a", -1034);
        dueFault(GREATEST.substring(0, 34) + "/", -1034);
        dueFault(GREATEST + "z", -1035);
    }

    private static void theEndIfSomethingLacks() {
        sentence("the end, if something lacks");
        dueFault("", -1000);
        dueFault(".", -1001);
        dueFault("..", -1002);
        dueFault(".....", -1005);
        dueFault("a./", -1003);
        dueFault("a./x", -1004);
        dueFault("a./.x/", -1006);
        dueFault("a./.x/.", -1007);
        dueFault(GREATEST.substring(0, 34), -1034);
        dueFault(GREATEST.substring(0, 30), -1030);
    }

    private static void formAheadOfDoors() {
        sentence("kind 1 .. else kind 2");
        dueFault("b./.", -1004);
        dueFault("b./..0", -1005);
        dueFault("b./..", -2000);
        dueFault("../../", -1006);
        dueFault("../..", -2000);
    }

    private static void doorsAndWells() {
        sentence("there is not one DOOR at least, as many DOORS as WELLS, both those with the least numbers");
        dueFault(".../...", -2000);
        dueFault("#../.#.", -2000);
        for (char c : "abcxyz".toCharArray()) {
            dueFault(c + "../...", -2000);
        }
        for (String pair : new String[] {"ay", "az", "bx", "by", "bz", "cx", "cy", "cz"}) {
            dueFault(pair + "./...", -2000);
        }
        for (String four : new String[] {"abxz", "abyz", "acxy", "acxz", "acyz", "bcxy", "bcxz", "bcyz"}) {
            dueFault(four.substring(0, 2) + "./" + four.substring(2) + ".", -2000);
        }
        for (String odd : new String[] {"abx", "axy", "abcx", "axyz", "abcxy", "abxyz"}) {
            dueFault(odd + ".....".substring(odd.length()) + "/.....", -2000);
        }
        due("one of each", told("ax/..").count(2), 1);
        due("two of each", told("yb/xa").count(2), 2);
        due("three of each", told("zcx/bya").count(2), 3);
        due("two of each fill the least slope", told("ab/xy").count(3), 0);
    }

    private static void lettersAreNoMore() {
        sentence("the letters become the SLOPE, and are no more (with a FAULT neither)");
        NeverCross x = told(LEAST);
        due("letters", x.count(5), 0);
        due("slope() of none", x.slope(), -1000);
        for (String text : new String[] {"", "q", "a./", "../..", "b./.x"}) {
            tell(x, text);
            due("letters after " + text, x.count(5), 0);
        }
        due("a whole slope told after a FAULT", tell(x, "a./.x"), 4);
        for (int what = 11; what <= 16; what++) {
            due("a FAULT is not counted: count(" + what + ")", x.count(what), 0);
        }
    }

    private static void slopeStaysWithAFault() {
        sentence("nor are SEEN CELLS, told WAYS (with a FAULT these stay)");
        for (String text : new String[] {"", "ab/x", "ab#/.xq", "../..", "b./.x"}) {
            NeverCross x = told("ab/xy", 4);
            x.set(1);
            x.seen(3);
            x.seen(0);
            walk(x, 0, "d");
            walk(x, 1, "d");
            due("TOLD is not OWN", x.judge(), 100);
            x.set(10);
            due("both apart", x.judge(), -9);
            x.set(1);
            CHECK.yes("a FAULT: " + text, tell(x, text) <= -1000);
            due("the SLOPE", x.count(0) * 10 + x.count(1), 22);
            due("DOORS", x.count(2), 2);
            due("the LAW", x.count(6), 4);
            due("TOLD", x.count(7), 1);
            due("SEEN CELLS", x.count(4), 2);
            x.set(10);
            due("told WAYS", x.judge(), -9);
            due("FITS", x.fits(), 1);
            due("the same slope again", tell(x, "ab/xy"), 4);
            due("no SEEN CELLS", x.count(4), 0);
            due("no told WAYS", x.judge(), 100);
            due("no steps", x.clear(), 0);
        }
        NeverCross none = new NeverCross();
        due("a FAULT of the first slope", tell(none, "ax"), -1002);
        due("there is no SLOPE then", none.all(), -3);
        due("no CELLS", none.cell(0, 0), -1);
        due("no DOORS", none.count(2), 0);
    }

    private static void cellsByColumns() {
        sentence("CELL c is in row c by the COLUMNS (cut)");
        for (int columns = 2; columns <= 5; columns++) {
            NeverCross x = told("....a".substring(5 - columns) + "/" + "x....".substring(0, columns));
            due("the last of row 0 of " + columns, x.cell(columns - 1, 0), 2);
            due("the first of row 1 of " + columns, x.cell(columns, 0), 3);
            due("no way from the one to the other", x.alone(0, 0), 0);
            walk(x, 0, "r");
            due("a step on leaves the SLOPE", x.judge(), 1000);
            NeverCross below = told("....a".substring(5 - columns) + "/" + "....x".substring(5 - columns));
            due("the last of row 1 of " + columns, below.cell(2 * columns - 1, 0), 3);
            due("it is below", below.alone(0, 0), 1);
            due("beyond", below.cell(2 * columns, 0), -1);
        }
    }
}
