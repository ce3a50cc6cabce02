/** "Terms", the last part: each sentence that names a bound of told WAYS, of JUDGED, of THE IMAGE, of the counts. */
public final class ToldEdgesTest extends Hand {
    public static void main(String[] args) {
        newObject();
        toldOrders();
        tenStepsAtMost();
        firstStepOff();
        stepsAheadOfEnds();
        endsInItsWell();
        endsByEachLaw();
        endsByAny();
        endsAheadOfMeetings();
        leastCellOfTwo();
        seenFourAtMost();
        clear();
        imageOfNothing();
        imageOfAll();
        seenOfTheImage();
        imageIsTakenOnce();
        onIsAskedAnew();
        counts();
        stepsBeyondAWay();
        whatNeverRefuses();
        fiveHundredTwelveCalls();
        twoObjects();
        CHECK.end("ToldEdgesTest");
    }

    private static void newObject() {
        sentence("Promise 1: No SLOPE");
        NeverCross x = new NeverCross();
        for (int what = 0; what <= 20; what++) {
            due("count(" + what + ")", x.count(what), what <= 7 || what >= 11 && what <= 16 ? 0 : -9);
        }
        due("most()", x.most(), 0);
        due("shuts()", x.shuts(), 0);
        due("few()", x.few(), 0);
        due("clear()", x.clear(), 0);
        due("boxes(4, 4, 4)", x.boxes(4, 4, 4), 232848);
        due("slope()", x.slope(), -1000);
        for (int what = 11; what <= 16; what++) {
            due("none of these is refused: count(" + what + ")", x.count(what), 0);
        }
    }

    private static void toldOrders() {
        sentence("Promise 6: of DOOR 0 the lowest digit, and so on (further digits 0): what it was");
        int[][] orders = {{0}, {10, 1}, {210, 120, 201, 21, 102, 12}};
        String[] texts = {"ax/..", "ab/xy", "abc/xyz"};
        for (int n = 1; n <= 3; n++) {
            NeverCross x = told(texts[n - 1]);
            int was = orders[n - 1][0];
            int taken = 0;
            for (int order = -5; order <= 3300; order++) {
                if (contains(orders[n - 1], order)) {
                    due("set(" + order + ") of " + n, x.set(order), was);
                    was = order;
                    taken++;
                } else if (order < 0 || order % 10 <= 2 && order / 10 % 10 <= 2 || order % 100 == 99) {
                    due("set(" + order + ") of " + n, x.set(order), -1);
                    due("by(" + order + ") of " + n, x.by(order), -1);
                }
            }
            due("orders of " + n, taken, orders[n - 1].length);
            due("TOLD is the last", x.count(7), was);
        }
        NeverCross x = told("abc/yzx", 4);
        x.set(21);
        due("DOOR 0 to WELL 1, DOOR 1 to WELL 2, DOOR 2 to WELL 0", x.all(), 1);
        for (int far : FAR_ABOVE) {
            due("set(" + far + ")", x.set(far), -1);
            due("by(" + far + ")", x.by(far), -1);
        }
        for (int far : FAR_BELOW) {
            due("set(" + far + ")", x.set(far), -1);
            due("by(" + far + ")", x.by(far), -1);
        }
        due("it stays", x.count(7), 21);
    }

    private static boolean contains(int[] orders, int order) {
        for (int one : orders) {
            if (one == order) {
                return true;
            }
        }
        return false;
    }

    private static void tenStepsAtMost() {
        sentence("steps (0 d, 1 r; 10 at most) for each DOOR");
        NeverCross x = told("abc/xyz");
        for (int door = 0; door < 3; door++) {
            for (int n = 1; n <= 10; n++) {
                due("step " + n + " of " + door, x.step(door, n & 1), n);
            }
            due("step 11 of " + door, x.step(door, 0), -6);
            due("step 11 of " + door, x.step(door, 1), -6);
        }
        due("steps there were", x.clear(), 30);
        due("a first step", x.step(2, 1), 1);
        due("steps there were", x.clear(), 1);
    }

    private static int judged(String text, String... ways) {
        NeverCross x = told(text);
        return judged(x, ways);
    }

    private static int judged(NeverCross x, String... ways) {
        for (int door = 0; door < ways.length; door++) {
            walk(x, door, ways[door]);
        }
        return x.judge();
    }

    private static void firstStepOff() {
        sentence("by DOORS, the first step that leaves the SLOPE or goes into a STONE: 1000, 20 times the DOOR, its place");
        due("the first step, a STONE on the right", judged("a#/.x", "r"), 1000);
        due("the first step, a STONE below", judged("a./#x", "d"), 1000);
        due("the second step, beyond the last row", judged("a./.x", "dd"), 1001);
        due("the second step, beyond the last column", judged("a./.x", "rr"), 1001);
        due("from the last row and column", judged("a./.x", "drd"), 1002);
        due("from the last row and column", judged("a./.x", "drr"), 1002);
        due("the tenth step", judged("a..../...../...../...../...../....x", "dddddrrrrr"), 1009);
        due("the tenth step", judged("a..../...../...../...../...../....x", "dddddrrrrd"), 1009);
        due("nine steps are good", judged("a..../...../...../...../...../....x", "dddddrrrr"), -9);
        due("the first of DOOR 1", judged("ab#/xy.", "d", "r"), 1020);
        due("the first of DOOR 2", judged("abc/xyz", "d", "d", "r"), 1040);
        due("the tenth of DOOR 2", judged("c..../a..../x..../b..../y..../....z", "d", "d", "dddddrrrrr"), 1049);
        due("a later step of a lesser DOOR first", judged("abc/xyz", "d", "dd", "r"), 1021);
        due("all three", judged("abc/xyz", "dd", "dd", "rr"), 1001);
        due("not from a row's end to the next row", judged("..a/x..", "r"), 1000);
        due("what comes after it does not count", judged("a./.x", "rrddrrrrrr"), 1001);
    }

    private static void stepsAheadOfEnds() {
        sentence("else by DOORS, the first that does not end");
        due("DOOR 0 does not end, DOOR 1 steps off", judged("ab#/xy.", "", "r"), 1020);
        due("DOOR 0 ends in another's WELL, DOOR 2 steps off", judged("abc/xyz", "rd", "d", "dr"), 1041);
        due("none steps off", judged("abc/xyz", "rd", "d", "d"), 100);
    }

    private static void endsInItsWell() {
        sentence("the first that does not end in its WELL by the LAW: 100 and the DOOR");
        due("no steps", judged("ab/xy"), 100);
        due("no steps of the last", judged("ab/xy", "d"), 101);
        due("no steps of the first", judged("ab/xy", "", "d"), 100);
        due("in a CELL with nothing", judged("a../..x", "dr"), 100);
        due("in another DOOR", judged("ab/xy", "r", "d"), 100);
        due("in another's WELL", judged("ab/xy", "rd", "d"), 100);
        due("through its WELL and on", judged("ax./b.y", "rr", "rr"), 100);
        due("DOOR 2 alone", judged("abc/xyz", "d", "d"), 102);
        due("all in theirs", judged("abc/xyz", "d", "d", "d"), -9);
        due("one in its", judged("ax/..", "r"), -9);
    }

    /** Straight down goes each DOOR to the WELL below it: that is its own by one LAW or two. */
    private static void endsByEachLaw() {
        sentence("in its WELL by the LAW");
        String[] texts = {"abc/xyz", "abc/zyx", "abc/yzx", "abc/zxy"};
        int[][] wants = {{-9, 100, 100, -9, -9}, {100, -9, 100, -9, 100}, {100, 100, -9, -9, 100}, {100, 101, 100, -9, 100}};
        for (int i = 0; i < texts.length; i++) {
            NeverCross x = told(texts[i]);
            judged(x, "d", "d", "d");
            for (int law = 0; law < 5; law++) {
                x.law(law);
                due("judge() of " + texts[i] + " by LAW " + law, x.judge(), wants[i][law]);
            }
        }
        NeverCross x = told("abc/zxy", 4);
        judged(x, "d", "d", "d");
        x.set(102);
        due("by TOLD", x.judge(), -9);
        x.set(12);
        due("by TOLD, the first good", x.judge(), 101);
    }

    private static void endsByAny() {
        sentence("(ANY: in a WELL)");
        NeverCross x = told("ab./xy.", 3);
        due("no steps", x.judge(), 100);
        due("a in y, b on its DOOR", judged(x, "rd"), 101);
        x.clear();
        due("past the WELLS", judged(x, "drr", "d"), 100);
        x.clear();
        due("each in one", judged(x, "d", "d"), -9);
        due("each in the other's", judged(told("ab/yx", 3), "d", "d"), -9);
        due("both in one WELL", judged(told("ab./.y./x..", 3), "dr", "d"), 4);
    }

    private static void endsAheadOfMeetings() {
        sentence("100 and the DOOR; else the least CELL in which two are");
        due("they meet, but DOOR 1 does not end", judged("ab./.../.yx", "drrd", "d"), 101);
        due("both end, and meet", judged("ab./.../.yx", "drrd", "dd"), 4);
        due("they meet in DOOR 1, that has no steps", judged("ab./.../.yx", "rdrd", ""), 101);
    }

    private static void leastCellOfTwo() {
        sentence("the least CELL in which two are (DOORS, WELLS, too); else -9");
        due("in one CELL", judged(".b./a.x/.y.", "rr", "dd"), 4);
        due("in two, the least", judged("ab./.../.../.xy", "drdd", "ddrd"), 4);
        due("in a DOOR", judged("abx/..y", "rr", "dr"), 1);
        due("in a WELL", judged("ab#/.y./..x", "drrd", "d"), 4);
        due("DOORS 1 and 2", judged("abc./x..y/..z.", "d", "drr", "dd"), 6);
        due("DOORS 0 and 2, ahead of 0 and 1", judged("a.cb/...x/..zy", "drrr", "dd", "dd"), 6);
        due("all three", judged(told("abc./...x/..yz", 3), "rrrd", "rrrd".substring(1), "rd"), 1);
        due("in the last CELL", judged(told("....a/...../...../...../y..../...bx", 3), "ddddd", "r"), 29);
        due("a through x, where nobody ends: but one is there", judged(told("ax./b.y", 3), "rrd", "rr"), 5);
        due("in none", judged("abc/xyz", "d", "d", "d"), -9);
    }

    private static void seenFourAtMost() {
        sentence("SEEN CELLS are told (4 at most)");
        NeverCross x = told("a..../...../...../...../...../....x");
        due("the least", x.seen(0), 1);
        due("the greatest", x.seen(29), 2);
        due("beyond", x.seen(30), -1);
        due("below", x.seen(-1), -1);
        due("again", x.seen(29), 3);
        due("the fourth", x.seen(5), 4);
        due("the fifth", x.seen(5), -6);
        due("SEEN CELLS", x.count(4), 4);
        due("FITS as with four", x.fits(), 70);
        x.clear();
        due("room again", x.seen(1), 1);
    }

    private static void clear() {
        sentence("Promise 26: no told WAYS, no SEEN CELLS any more: how many steps there were");
        NeverCross x = told("ab/xy");
        due("of none", x.clear(), 0);
        x.seen(1);
        due("SEEN CELLS are no steps", x.clear(), 0);
        due("SEEN CELLS", x.count(4), 0);
        walk(x, 1, "d");
        due("of one", x.clear(), 1);
        walk(x, 0, "dddddddddd");
        walk(x, 1, "rrrrrrrrrr");
        due("of all", x.clear(), 20);
        due("of none again", x.clear(), 0);
        due("told anew", judged(x, "d", "d"), -9);
        x.letter('a');
        x.law(2);
        x.set(1);
        x.clear();
        due("letters stay", x.count(5), 1);
        due("the LAW stays", x.count(6), 2);
        due("TOLD stays", x.count(7), 1);
        due("the SLOPE stays", x.count(2), 2);
    }

    private static void imageOfNothing() {
        sentence("THE IMAGE without a SLOPE; on(): -3 there is none");
        NeverCross x = new NeverCross();
        due("on() without an image", x.on(), -3);
        x.law(2);
        x.letter('a');
        due("image()", x.image(), 0);
        x.law(3);
        tell(x, "x/..");
        x.set(0);
        x.seen(1);
        walk(x, 0, "r");
        due("ALL", x.all(), 1);
        due("on()", x.on(), 0);
        for (int what = 0; what <= 7; what++) {
            due("count(" + what + ")", x.count(what), what == 6 ? 2 : 0);
        }
        due("no CELL", x.cell(0, 0), -1);
        due("no DOOR", x.alone(0, 0), -1);
        due("no ALL", x.all(), -3);
        due("no MOST", x.most(), 0);
        due("no SHUTS", x.shuts(), 0);
        due("no FEW", x.few(), 0);
        due("no steps", x.clear(), 0);
        due("another SLOPE", tell(x, "ab/yx"), 4);
        due("by the LAW as then", x.all(), 1);
        due("on() again", x.on(), 0);
    }

    private static void imageOfAll() {
        sentence("THE IMAGE: the SLOPE, the LAW, what is told by set(), SEEN CELLS, told WAYS; ON from it all is as then");
        NeverCross x = told("abc.9/...../..#../...../...../..zyx", 4);
        due("TOLD is 12", x.set(12), 210);
        int[] cells = {0, 29, 12, 29};
        for (int cell : cells) {
            x.seen(cell);
        }
        walk(x, 0, "dddddddddd");
        walk(x, 1, "rrrrrrrrrr");
        walk(x, 2, "rdrdrdrdrd");
        due("image() of the greatest", x.image(), 30);
        due("judged", x.judge(), 1005);
        due("the least SLOPE", tell(x, "ax/.."), 4);
        x.law(0);
        x.seen(1);
        walk(x, 0, "r");
        due("judged", x.judge(), -9);
        due("on()", x.on(), 30);
        due("ROWS", x.count(0), 6);
        due("COLUMNS", x.count(1), 5);
        due("DOORS", x.count(2), 3);
        due("STONES", x.count(3), 1);
        due("SEEN CELLS", x.count(4), 4);
        due("the LAW", x.count(6), 4);
        due("TOLD", x.count(7), 12);
        due("what is there", x.cell(27, 2), 2);
        due("COST", x.cell(4, 1), 9);
        due("judged as then", x.judge(), 1005);
        due("no room for SEEN CELLS", x.seen(0), -6);
        for (int door = 0; door < 3; door++) {
            due("no room for steps of " + door, x.step(door, 0), -6);
        }
        due("steps", x.clear(), 30);
        due("on() once more", x.on(), 30);
        due("steps once more", x.clear(), 30);
    }

    private static void seenOfTheImage() {
        sentence("THE IMAGE: .. SEEN CELLS");
        NeverCross x = told("a./.x/b./.y/c./.z");
        x.seen(1);
        x.seen(5);
        x.image();
        x.clear();
        x.seen(2);
        x.seen(6);
        x.seen(9);
        due("others are SEEN", x.fits(), 1);
        x.on();
        due("how many", x.count(4), 2);
        due("those of the image", x.fits(), 2);
        x.seen(9);
        due("one more", x.fits(), 1);
        x.on();
        due("without the one more", x.fits(), 2);
    }

    private static void imageIsTakenOnce() {
        sentence("THE IMAGE is taken");
        NeverCross x = told("ab/xy");
        x.image();
        x.law(1);
        x.set(1);
        x.seen(0);
        walk(x, 0, "d");
        due("on()", x.on(), 4);
        due("the LAW", x.count(6), 0);
        due("TOLD", x.count(7), 10);
        due("SEEN CELLS", x.count(4), 0);
        due("steps", x.clear(), 0);
        x.law(2);
        due("another image", x.image(), 4);
        x.law(0);
        due("on() from the last", x.on(), 4);
        due("the LAW of the last", x.count(6), 2);
        due("a SLOPE does not take it away", tell(x, "ax./..."), 6);
        due("nor a FAULT", tell(x, "q"), -1000);
        x.clear();
        due("on()", x.on(), 4);
        x.letter('a');
        x.all();
        x.law(-1);
        due("on()", x.on(), 4);
        due("letters are not in it", x.count(5), 1);
        due("REFUSALS are not in it", x.count(12), 1);
    }

    private static void onIsAskedAnew() {
        sentence("ON from it all is as then");
        NeverCross x = told("a./.x/b./.y/c./.z");
        dueText("way 7 of c", ranked(x, 7, 2), "rd");
        due("MOST", x.most(), 3);
        x.image();
        tell(x, "a#/.x");
        dueText("way 0", ranked(x, 0, 0), "dr");
        due("MOST of another", x.most(), 1);
        due("SHUTS of another", x.shuts(), 4);
        x.on();
        dueText("way 0 of b", ranked(x, 0, 1), "dr");
        dueText("way 7 of c as then", ranked(x, 7, 2), "rd");
        due("MOST as then", x.most(), 3);
        due("SHUTS as then", x.shuts(), 0);
        due("FEW as then", x.few(), 3);
        x.law(1);
        due("TURNED there is none", x.rank(7, 2, 0), -9);
        x.on();
        due("by the LAW as then", x.rank(7, 2, 0), 1);
        due("ALL as then", x.all(), 8);
    }

    private static void counts() {
        sentence("Promise 29: 0 ROWS .. 7 TOLD, 11 .. 16 REFUSALS -1 .. -6. -9 for another what");
        dueCounts("ax/..", 2, 2, 1, 0, 0);
        dueCounts("ax###/#####/#####/#####/#####/#####", 6, 5, 1, 28, 0);
        dueCounts("ab/xy", 2, 2, 2, 0, 10);
        dueCounts("abc/xyz", 2, 3, 3, 0, 210);
        NeverCross x = told("ax/..");
        for (int what : new int[] {-1, -9, 8, 9, 10, 17, 18, 21}) {
            due("count(" + what + ")", x.count(what), -9);
        }
        for (int far : FAR_ABOVE) {
            due("count(" + far + ")", x.count(far), -9);
        }
        for (int far : FAR_BELOW) {
            due("count(" + far + ")", x.count(far), -9);
        }
        for (int n = 1; n <= 48; n++) {
            x.letter('q');
            due("letters", x.count(5), n);
        }
        for (int law = 4; law >= 0; law--) {
            x.law(law);
            due("LAW", x.count(6), law);
        }
    }

    private static void dueCounts(String text, int... wants) {
        NeverCross x = told(text);
        due("ROWS of " + text, x.count(0), wants[0]);
        due("COLUMNS of " + text, x.count(1), wants[1]);
        due("DOORS of " + text, x.count(2), wants[2]);
        due("STONES of " + text, x.count(3), wants[3]);
        due("SEEN CELLS of " + text, x.count(4), 0);
        due("letters of " + text, x.count(5), 0);
        due("LAW of " + text, x.count(6), 0);
        due("TOLD of " + text, x.count(7), wants[4]);
    }

    private static void stepsBeyondAWay() {
        sentence("Promises 14, 15: the step of a DOOR's WAY (0 d, 1 r); -9 none such");
        NeverCross x = told("a./.x/b./.y/c./.z");
        int[] ks = {7, 8, 9, 100, Integer.MAX_VALUE};
        for (int k : ks) {
            for (int door = 0; door < 3; door++) {
                due("rank(" + k + ", " + door + ", 0)", x.rank(k, door, 0), k == 7 ? 1 : -9);
                due("rank(" + k + ", " + door + ", 1)", x.rank(k, door, 1), k == 7 ? 0 : -9);
                due("rank(" + k + ", " + door + ", 2)", x.rank(k, door, 2), -9);
                due("rank, the greatest", x.rank(k, door, Integer.MAX_VALUE), -9);
            }
        }
        due("drawn, the last step", x.drawn(0, 0, 1), 1);
        due("drawn, one beyond", x.drawn(0, 0, 2), -9);
        due("drawn, the greatest", x.drawn(0, 0, Integer.MAX_VALUE), -9);
        for (int what = 11; what <= 16; what++) {
            due("-9 is no refusal: count(" + what + ")", x.count(what), 0);
        }
    }

    private static void whatNeverRefuses() {
        sentence("REFUSALS: slope(), most(), shuts(), few(), clear(), image(), count() have none");
        for (String text : new String[] {"", "ax/..", "a#/#x"}) {
            NeverCross x = new NeverCross();
            if (!text.isEmpty()) {
                tell(x, text);
            }
            x.slope();
            x.most();
            x.shuts();
            x.few();
            x.clear();
            x.image();
            x.on();
            x.count(-1);
            x.count(100);
            for (int what = 11; what <= 16; what++) {
                due("count(" + what + ") after " + text, x.count(what), 0);
            }
        }
    }

    private static void fiveHundredTwelveCalls() {
        sentence("An object is used for at most 512 calls");
        NeverCross x = told("ab./..x/.y.", 1);
        for (int calls = 13; calls < 511; calls++) {
            due("call " + calls, x.rank(calls % 4, calls & 1, 0) >= 0 ? 1 : 0, calls % 4 == 3 ? 0 : 1);
        }
        due("the 512th", x.all(), 3);
        NeverCross refused = new NeverCross();
        for (int calls = 1; calls < 512; calls++) {
            due("refused " + calls, refused.all(), -3);
        }
        due("the 512th", refused.count(13), 511);
    }

    private static void twoObjects() {
        sentence("A new object has nothing of another");
        NeverCross one = told("ab/xy", 1);
        NeverCross other = told("abc/zxy", 4);
        one.image();
        one.seen(0);
        other.set(102);
        due("ALL of the one", one.all(), 0);
        due("ALL of the other", other.all(), 1);
        due("SEEN of the other", other.count(4), 0);
        due("no image of the other", other.on(), -3);
        due("TOLD of the one", one.count(7), 10);
        due("no REFUSALS of the one", one.count(13), 0);
        due("rank of the other", other.rank(0, 2, 0), 0);
        due("rank of the one", one.rank(0, 1, 0), -9);
    }
}
