/** "Terms", the second part: each sentence that names a bound of WAYS, FAMILIES, LAWS and what is counted of them. */
public final class WayEdgesTest extends Hand {
    /** One order of wells has a FAMILY in each: told with its order, TURNED is 12, NEXT 21, OWN 210. */
    private static final String[] ROWS_OF_THREE = {"abc/xyz", "abc/zyx", "abc/yzx", "abc/zxy", "abc/xzy", "abc/yxz"};
    private static final int[] ORDERS_OF_THREE = {210, 12, 21, 102, 120, 201};
    /** Lesser door, greater well: one pair turned makes -1, two make 1. */
    private static final int[] SIGNS_OF_THREE = {1, -1, 1, 1, -1, -1};
    private static final String CORNERS = "a..../...../...../...../...../....x";
    /** a goes 3 4 5 or 3 .. 7, b 1 4 7 or 1 .. 5: by OWN both need cell 4, by TURNED there are 3. */
    private static final String CROSS = ".b./a.x/.y.";
    /** Each DOOR has two WAYS, "dr" and "rd", that touch no other's: 8 FAMILIES. */
    private static final String STAIRS = "a./.x/b./.y/c./.z";
    /** By OWN one FAMILY, by TURNED three. */
    private static final String BOTH = "a../b../.x./..y";

    public static void main(String[] args) {
        downOrRight();
        notIntoStones();
        aloneThroughOthers();
        oneWayForEach();
        eachToAnother();
        noTwoInOneCell();
        noneThroughAnother();
        ownAndTurned();
        nextGoneRound();
        any();
        toldAsOwn();
        signs();
        holds();
        cheapest();
        inLeastTerms();
        order();
        draws();
        mostAtOnce();
        shutsCells();
        seenCells();
        whoGoesThere();
        boxesInACorner();
        lostWays();
        fewDoors();
        nothingOfTheSlopeAhead();
        familiesAreAskedAnew();
        CHECK.end("WayEdgesTest");
    }

    private static void downOrRight() {
        sentence("A WAY goes step by step down (d) or right (r)");
        due("down", told("a./x.").alone(0, 0), 1);
        due("right", told("ax/..").alone(0, 0), 1);
        due("up", told("x./a.").alone(0, 0), 0);
        due("left", told("xa/..").alone(0, 0), 0);
        due("down and left", told(".a/x.").alone(0, 0), 0);
        due("up and right", told(".x/a.").alone(0, 0), 0);
        due("from corner to corner", told(CORNERS).alone(0, 0), 126);
        due("back", told("x..../...../...../...../...../....a").alone(0, 0), 0);
        due("none beyond the last row", told("..x/..a").alone(0, 0), 0);
    }

    private static void notIntoStones() {
        sentence("not into STONES");
        due("one shut", told("a#/.x").alone(0, 0), 1);
        due("both shut", told("a#/#x").alone(0, 0), 0);
        due("a WELL shut in", told("a../.##/.#x").alone(0, 0), 0);
        due("a way around", told("a../##./..x").alone(0, 0), 1);
    }

    private static void aloneThroughOthers() {
        sentence("alone it may go through other DOORS and WELLS");
        NeverCross x = told("abxy/....");
        due("through another DOOR", x.alone(0, 0), 1);
        due("through another DOOR and WELL", x.alone(0, 1), 1);
        due("through another WELL", x.alone(1, 1), 1);
        due("but not in a FAMILY", x.by(10), 0);
        NeverCross three = told("abcxy/....z");
        due("through two DOORS and two WELLS", three.alone(0, 2), 5);
    }

    private static void oneWayForEach() {
        sentence("A FAMILY: one WAY for each DOOR");
        NeverCross x = told("ab#/.#y/x#.");
        for (int v = 0; v < 5; v++) {
            x.law(v);
            due("one DOOR is shut in, LAW " + v, x.all(), 0);
            due("no COST, LAW " + v, x.cheap(), -9);
        }
        due("the other has its WAY", x.alone(0, 0), 1);
        due("MOST", x.most(), 1);
        due("FEW", x.few(), 1);
    }

    private static void eachToAnother() {
        sentence("each to another WELL");
        NeverCross x = told("yab/..x", 3);
        due("a to x", x.alone(0, 0), 2);
        due("b to x", x.alone(1, 0), 1);
        due("a to y", x.alone(0, 1), 0);
        due("not both to x", x.all(), 0);
        due("nor by an order", x.by(10) + x.by(1), 0);
        due("MOST", x.most(), 1);
    }

    private static void noTwoInOneCell() {
        sentence("no two of them in one CELL");
        NeverCross x = told(CROSS, 3);
        due("a to x alone", x.alone(0, 0), 1);
        due("b to y alone", x.alone(1, 1), 1);
        due("by OWN both need cell 4", x.by(10), 0);
        due("a to y alone", x.alone(0, 1), 2);
        due("b to x alone", x.alone(1, 0), 2);
        due("by TURNED one of the four has both in cell 4", x.by(1), 3);
        due("ANY", x.all(), 3);
    }

    private static void noneThroughAnother() {
        sentence("so that none goes through another DOOR, WELL");
        NeverCross x = told("abx/..y", 3);
        due("a to x only through b", x.by(10), 0);
        due("a to y below", x.by(1), 1);
        NeverCross well = told("axy/b..", 3);
        due("a to y only through x", well.by(1), 0);
        due("b gets to none", well.all(), 0);
        NeverCross past = told("ax./b.y/...", 3);
        due("a to x, b to y", past.by(10), 1);
        due("a to y only through x or b", past.by(1), 0);
    }

    private static void ownAndTurned() {
        sentence("0 OWN: that with its number. 1 TURNED: DOOR i to WELL n less 1 less i");
        for (int i = 0; i < 6; i++) {
            NeverCross x = told(ROWS_OF_THREE[i]);
            due("OWN of " + ROWS_OF_THREE[i], x.all(), ORDERS_OF_THREE[i] == 210 ? 1 : 0);
            x.law(1);
            due("TURNED of " + ROWS_OF_THREE[i], x.all(), ORDERS_OF_THREE[i] == 12 ? 1 : 0);
        }
        due("OWN of two", told("ab/xy", 0).all(), 1);
        due("OWN of two, turned", told("ab/yx", 0).all(), 0);
        due("TURNED of two", told("ab/yx", 1).all(), 1);
        due("TURNED of two, not turned", told("ab/xy", 1).all(), 0);
        due("OWN of one", told("ax/..", 0).all(), 1);
        due("TURNED of one is OWN", told("ax/..", 1).all(), 1);
    }

    private static void nextGoneRound() {
        sentence("2 NEXT: to the next (gone round)");
        for (int i = 0; i < 6; i++) {
            due("NEXT of " + ROWS_OF_THREE[i], told(ROWS_OF_THREE[i], 2).all(), ORDERS_OF_THREE[i] == 21 ? 1 : 0);
        }
        due("NEXT of two", told("ab/yx", 2).all(), 1);
        due("NEXT of two, not turned", told("ab/xy", 2).all(), 0);
        due("NEXT of one is gone round to itself", told("ax/..", 2).all(), 1);
        NeverCross x = told("abc/yzx", 2);
        walk(x, 0, "d");
        walk(x, 1, "d");
        walk(x, 2, "d");
        due("told WAYS by NEXT", x.judge(), -9);
        x.law(1);
        due("told WAYS by TURNED", x.judge(), 100);
    }

    private static void any() {
        sentence("3 ANY: any, each to another one (all such FAMILIES count)");
        for (int i = 0; i < 6; i++) {
            due("ANY of " + ROWS_OF_THREE[i], told(ROWS_OF_THREE[i], 3).all(), 1);
        }
        due("ANY of one", told("a../..x", 3).all(), 3);
        NeverCross x = told(BOTH, 3);
        due("OWN", x.by(10), 1);
        due("TURNED", x.by(1), 3);
        due("ANY is both", x.all(), 4);
        due("told order or not", x.set(1), 10);
        due("ANY is both still", x.all(), 4);
    }

    private static void toldAsOwn() {
        sentence("4 TOLD: as it is told by set() (as OWN, till it is told for this SLOPE)");
        for (int i = 0; i < 6; i++) {
            NeverCross x = told(ROWS_OF_THREE[i], 4);
            due("not told: OWN of " + ROWS_OF_THREE[i], x.count(7), 210);
            due("not told, " + ROWS_OF_THREE[i], x.all(), ORDERS_OF_THREE[i] == 210 ? 1 : 0);
            for (int j = 0; j < 6; j++) {
                x.set(ORDERS_OF_THREE[j]);
                due("told " + ORDERS_OF_THREE[j] + " of " + ROWS_OF_THREE[i], x.all(), i == j ? 1 : 0);
            }
            due("the same SLOPE again", tell(x, ROWS_OF_THREE[i]), 6);
            due("not told for this one", x.count(7), 210);
            due("OWN again", x.all(), ORDERS_OF_THREE[i] == 210 ? 1 : 0);
        }
        NeverCross fewer = told("abc/xyz", 4);
        fewer.set(12);
        tell(fewer, "ab/xy");
        due("of two, not told", fewer.count(7), 10);
        due("of two, OWN", fewer.all(), 1);
        tell(fewer, "ax/..");
        due("of one, not told", fewer.count(7), 0);
        due("of one, OWN", fewer.all(), 1);
    }

    private static void signs() {
        sentence("times -1 for each two DOORS of which the lesser has the greater WELL");
        for (int i = 0; i < 6; i++) {
            NeverCross x = told(ROWS_OF_THREE[i]);
            for (int law = 0; law < 5; law++) {
                x.law(law);
                due("SIGNED of " + ROWS_OF_THREE[i] + " by LAW " + law, x.signed(), SIGNS_OF_THREE[i]);
            }
        }
        due("of two", told("ab/xy").signed(), 1);
        due("of two, turned", told("ab/yx").signed(), -1);
        due("of one", told(CORNERS).signed(), 126);
        due("of none", told("a#/#x").signed(), 0);
        due("1 by 1 less 2 by 2", told(CROSS).signed(), -3);
        due("2 by 2 by 2, and none else", told(STAIRS).signed(), 8);
    }

    private static void holds() {
        sentence("HOLDS: whether there are no FAMILIES for any order of WELLS but OWN's");
        for (int i = 0; i < 6; i++) {
            NeverCross x = told(ROWS_OF_THREE[i]);
            for (int law = 0; law < 5; law++) {
                x.law(law);
                due("HOLDS of " + ROWS_OF_THREE[i] + " by LAW " + law, x.holds(), i == 0 ? 1 : 0);
            }
            if (x.holds() == 1) {
                due("then SIGNED is ALL by OWN", x.signed(), x.by(210));
            }
        }
        due("of two", told("ab/xy").holds(), 1);
        due("of two, turned", told("ab/yx").holds(), 0);
        due("of one there is no other order", told("ax/..").holds(), 1);
        due("without any FAMILY", told("a#/#x").holds(), 1);
        due("both OWN and another", told(BOTH).holds(), 0);
    }

    private static void cheapest() {
        sentence("CHEAP: the least COST of all CELLS of a FAMILY; -9");
        due("no COST", told("ax/..").cheap(), 0);
        due("the least digit", told("a1x/999").cheap(), 1);
        due("the greatest COST of one", told("a9999/99999/99999/99999/99999/9999x").cheap(), 72);
        due("no FAMILY", told("a#/#x").cheap(), -9);
        due("no FAMILY by this LAW", told("ab/xy", 1).cheap(), -9);
        due("the greatest digit", told("a9x/...").cheap(), 9);
        due("the dear way is the only one", told("a1#/92x").cheap(), 3);
        due("of all three together", told("abc/123/xyz").cheap(), 6);
        dueCheap("a../b../.x./4.y", 4, 0, 0, 0, 4);
        dueCheap("a../b../.x9/..y", 0, 9, 9, 0, 0);
        dueCheap("a3./b../.x9/4.y", 7, 12, 12, 7, 7);
        dueCheap("a.4/b5./.x./..y", 5, 4, 4, 4, 5);
    }

    /** The answers that are due by LAW 0, 1 .. 4. */
    private static void dueCheap(String text, int... wants) {
        NeverCross x = told(text);
        for (int law = 0; law < 5; law++) {
            x.law(law);
            due("CHEAP of " + text + " by LAW " + law, x.cheap(), wants[law]);
        }
    }

    private static void inLeastTerms() {
        sentence("USED: by how many of ALL FAMILIES one goes there, in least terms (0 by 1)");
        NeverCross x = told(CORNERS);
        dueUsed(x, 0, 1, 1);
        dueUsed(x, 29, 1, 1);
        dueUsed(x, 1, 4, 9);
        dueUsed(x, 5, 5, 9);
        dueUsed(x, 4, 1, 126);
        dueUsed(x, 25, 1, 126);
        dueUsed(x, 6, 5, 9);
        dueUsed(told("a#/.x"), 1, 0, 1);
        dueUsed(told("a#/.x"), 2, 1, 1);
        dueUsed(told("a#/#x"), 0, 0, 1);
        dueUsed(told("ab/xy", 1), 0, 0, 1);
        dueUsed(told("ax/.."), 3, 0, 1);
        NeverCross both = told(BOTH, 3);
        dueUsed(both, 4, 3, 4);
        dueUsed(both, 3, 1, 1);
        both.law(1);
        dueUsed(both, 4, 2, 3);
        both.law(0);
        dueUsed(both, 4, 1, 1);
        dueUsed(both, 5, 0, 1);
    }

    private static void dueUsed(NeverCross x, int cell, int above, int below) {
        due("used(" + cell + ", 0)", x.used(cell, 0), above);
        due("used(" + cell + ", 1)", x.used(cell, 1), below);
    }

    private static void order() {
        sentence("RANK: in order, by the WAY of DOOR 0, then of 1, 2, of each by its steps, d ahead of r: the k-th");
        NeverCross x = told(CORNERS);
        dueText("the first", ranked(x, 0, 0), "dddddrrrr");
        dueText("the second", ranked(x, 1, 0), "ddddrdrrr");
        dueText("the last", ranked(x, 125, 0), "rrrrddddd");
        dueText("the last but one", ranked(x, 124, 0), "rrrdrdddd");
        dueText("beyond", ranked(x, 126, 0), "");
        NeverCross steps = told(STAIRS);
        for (int k = 0; k < 8; k++) {
            for (int door = 0; door < 3; door++) {
                String way = (k >> (2 - door) & 1) == 0 ? "dr" : "rd";
                dueText("way of " + door + " in FAMILY " + k, ranked(steps, k, door), way);
            }
        }
        dueText("beyond", ranked(steps, 8, 2), "");
        dueFamilies(told(CROSS, 1), "dr dr", "dr rd", "rd rd");
        dueFamilies(told(CROSS, 0));
        dueFamilies(told(BOTH, 0), "rdd ddrr");
        dueFamilies(told(BOTH, 1), "rdrdd dr", "rrddd dr", "rrddd rd");
        dueFamilies(told(BOTH, 2), "rdrdd dr", "rrddd dr", "rrddd rd");
        dueFamilies(told(BOTH, 3), "rdd ddrr", "rdrdd dr", "rrddd dr", "rrddd rd");
        dueFamilies(told(BOTH, 4), "rdd ddrr");
    }

    /** All FAMILIES of two DOORS by the LAW, and none beyond. */
    private static void dueFamilies(NeverCross x, String... families) {
        due("ALL", x.all(), families.length);
        for (int k = 0; k < families.length; k++) {
            dueText("FAMILY " + k, ranked(x, k, 0) + " " + ranked(x, k, 1), families[k]);
        }
        dueText("beyond", ranked(x, families.length, 0) + ranked(x, families.length, 1), "");
    }

    private static void draws() {
        sentence("a DRAW below m: z times 1664525 and 1013904223 (an int); without its sign's bit by 256, cut, modulo m");
        NeverCross eight = told(STAIRS);
        dueDrawn(eight, 0, 3);
        dueDrawn(eight, -1, 5);
        dueDrawn(eight, 1, 1);
        dueDrawn(eight, 1000000, 0);
        dueDrawn(eight, Integer.MAX_VALUE, 5);
        dueDrawn(eight, Integer.MIN_VALUE, 3);
        due("one less than a multiple of 256 is cut", (32 * 1664525 + 1013904223) % 256, 255);
        dueDrawn(eight, 32, 4);
        due("a multiple of 256", (229 * 1664525 + 1013904223) % 256, 0);
        dueDrawn(eight, 229, 5);
        NeverCross corners = told(CORNERS);
        dueDrawn(corners, 0, 5);
        dueDrawn(told("a#/.x"), 0, 0);
        dueDrawn(told("a#/.x"), Integer.MIN_VALUE, 0);
        int z = 1;
        for (int i = 0; i < 20; i++) {
            z = z * 31 + 1000003 * i;
            dueDrawn(told(STAIRS), z, drawByHand(z, 8));
            dueDrawn(told(CROSS, 1), z, drawByHand(z, 3));
            dueDrawn(told(CORNERS), z, drawByHand(z, 126));
        }
        NeverCross none = told("a#/#x");
        due("below none", none.drawn(0, 0, 0), -9);
        due("below none, far", none.drawn(Integer.MIN_VALUE, 0, Integer.MAX_VALUE), -9);
    }

    private static int drawByHand(int z, int m) {
        long drawn = (z * 1664525L + 1013904223L) & 0x7fffffffL;
        return (int) (drawn / 256 % m);
    }

    private static void dueDrawn(NeverCross x, int z, int k) {
        for (int door = 0; door < x.count(2); door++) {
            for (int step = 0; step < 11; step++) {
                due("drawn(" + z + ", " + door + ", " + step + ")", x.drawn(z, door, step), x.rank(k, door, step));
            }
        }
    }

    private static void mostAtOnce() {
        sentence("MOST: as many WAYS as can be at once, from any DOORS, each to any WELL");
        due("none can", told("a#/#x").most(), 0);
        due("none of two", told("xy/ab").most(), 0);
        due("none of three", told("xyz/abc").most(), 0);
        due("one of one", told("ax/..").most(), 1);
        due("one of two, of DOOR 1", told("x.b/a.y").most(), 1);
        due("one of three, of DOOR 2", told("xyc/abz").most(), 1);
        due("two of three", told("abz/xyc").most(), 2);
        due("three of three", told("abc/xyz").most(), 3);
        NeverCross x = told("abc/zxy");
        for (int law = 0; law < 5; law++) {
            x.law(law);
            due("all three, to others' WELLS too, LAW " + law, x.most(), 3);
        }
        due("one WELL for both", told("yab/..x").most(), 1);
        due("one place for both", told("yab/##./##x").most(), 1);
    }

    private static void shutsCells() {
        sentence("SHUTS: the CELLS (bits) which, were they STONES, would make MOST less (DOORS, WELLS not)");
        due("MOST is 0", told("a#/#x").shuts(), 0);
        due("none but DOORS and WELLS", told("ax/..").shuts(), 0);
        due("there is another way", told("a./.x").shuts(), 0);
        due("one way", told("a#/.x").shuts(), 1 << 2);
        due("cells 5 .. 25 by 5, 26, 27, 28", told("a####/.####/.####/.####/.####/....x").shuts(), 0x1e108420);
        due("with COSTS", told("a9#/#9x").shuts(), 1 << 1 | 1 << 4);
        due("the place that all need", told("a../#.#/..x").shuts(), 1 << 1 | 1 << 4 | 1 << 7);
        due("two WAYS side by side", told("ab/../xy").shuts(), 1 << 2 | 1 << 3);
        due("one of two is enough", told("yab/##./##x").shuts(), 1 << 5);
        NeverCross x = told("ab#/.../xy#");
        for (int law = 0; law < 5; law++) {
            x.law(law);
            due("by no LAW, " + law, x.shuts(), 1 << 3 | 1 << 4);
        }
    }

    private static void seenCells() {
        sentence("SEEN CELLS (4 at most): FITS: FAMILIES by the LAW that go through each of these (one or another)");
        NeverCross x = told(STAIRS);
        due("none is SEEN", x.fits(), 8);
        x.seen(1);
        due("one", x.fits(), 4);
        x.seen(5);
        due("two", x.fits(), 2);
        x.seen(9);
        due("three", x.fits(), 1);
        x.seen(11);
        due("four, with a WELL", x.fits(), 1);
        x.clear();
        due("none is any more", x.fits(), 8);
        x.seen(1);
        x.seen(1);
        x.seen(1);
        due("the same, told thrice", x.fits(), 4);
        x.seen(2);
        due("the way down and the way on the right", x.fits(), 0);
        x.clear();
        x.seen(0);
        x.seen(4);
        x.seen(8);
        x.seen(3);
        due("DOORS and a WELL", x.fits(), 8);
        NeverCross stone = told("a#/.x");
        stone.seen(1);
        due("a STONE", stone.fits(), 0);
        NeverCross beside = told(".a./..x");
        due("CELL 0 is on no way", beside.fits(), 2);
        beside.seen(2);
        due("CELL 0 is not SEEN", beside.fits(), 1);
        beside.seen(0);
        due("CELL 0 is SEEN", beside.fits(), 0);
        NeverCross law = told(BOTH, 3);
        law.seen(2);
        due("ANY", law.fits(), 2);
        law.law(0);
        due("OWN", law.fits(), 0);
        law.law(1);
        due("TURNED", law.fits(), 2);
        law.law(4);
        due("TOLD as OWN", law.fits(), 0);
        law.set(1);
        due("TOLD", law.fits(), 2);
    }

    private static void whoGoesThere() {
        sentence("WHO: DOORS (bits) whose WAY goes through a CELL in some FAMILY by the LAW");
        NeverCross x = told("c.../.a../.ybz/..x.", 3);
        int[] bits = {4, 4, 4, 4, 4, 1, 5, 5, 4, 5, 2, 7, 4, 4, 6, 0};
        for (int cell = 0; cell < 16; cell++) {
            due("ANY: who(" + cell + ")", x.who(cell), bits[cell]);
        }
        x.law(0);
        for (int cell = 0; cell < 16; cell++) {
            due("OWN, none: who(" + cell + ")", x.who(cell), 0);
        }
        for (int cell = 0; cell < 30; cell++) {
            due("of one DOOR: who(" + cell + ")", told(CORNERS).who(cell), 1);
        }
        NeverCross both = told(BOTH, 3);
        due("ANY: who(4)", both.who(4), 3);
        both.law(0);
        due("OWN: who(4)", both.who(4), 1);
        both.law(1);
        due("TURNED: who(4)", both.who(4), 3);
        due("a STONE", told("a#/.x").who(1), 0);
        due("without FAMILIES its own DOOR neither", told("a#/#x").who(0), 0);
    }

    private static void boxesInACorner() {
        sentence("BOXES: in a corner a by b by c (0 .. 4 each)");
        NeverCross x = new NeverCross();
        Oracle slowly = new Oracle();
        for (int a = 0; a <= 4; a++) {
            for (int b = 0; b <= 4; b++) {
                for (int c = 0; c <= 4; c++) {
                    int want = slowly.boxes(a, b, c);
                    due("boxes(" + a + ", " + b + ", " + c + ")", x.boxes(a, b, c), want);
                }
                due("none high: " + a + " by " + b, x.boxes(a, b, 0), 1);
                due("one row or more, none wide", x.boxes(a, 0, b), 1);
                due("no rows", x.boxes(0, a, b), 1);
                due("one pile", x.boxes(1, 1, a), a + 1);
            }
        }
        due("boxes(4, 4, 4)", x.boxes(4, 4, 4), 232848);
        due("boxes(4, 4, 1)", x.boxes(4, 4, 1), 70);
    }

    private static void lostWays() {
        sentence("STONE more: how many FAMILIES are lost, if a CELL were one");
        NeverCross x = told(STAIRS);
        due("half", x.lost(1), 4);
        due("the other half", x.lost(2), 4);
        due("all", told("a#/.x").lost(2), 1);
        due("none", told("ax/..").lost(2), 0);
        due("none are, none can be lost", told("a#./#.x").lost(2), 0);
        due("a CELL with a COST", told("a9/.x").lost(1), 1);
        NeverCross both = told(BOTH, 3);
        due("ANY", both.lost(2), 2);
        due("ANY, by OWN and by TURNED", both.lost(4), 3);
        both.law(0);
        due("OWN", both.lost(2), 0);
        due("OWN", both.lost(4), 1);
        due("the SLOPE stays", both.cell(2, 0), 0);
        due("ALL stays", both.all(), 1);
    }

    private static void fewDoors() {
        sentence("FEW: the greatest n by which the first n DOORS alone have a FAMILY by OWN (others as cells); 0");
        due("not one", told("a#/#x").few(), 0);
        due("not the first, though the others", told("xbc/ayz").few(), 0);
        due("one of one", told("ax/..").few(), 1);
        due("one of two", told("ay/xb").few(), 1);
        due("one of three", told("ayz/xbc").few(), 1);
        due("two of three", told("abz/xyc").few(), 2);
        due("three of three", told("abc/xyz").few(), 3);
        due("alone through another's DOOR", told("abx/#.y").few(), 1);
        due("alone through another's WELL", told("ayx/#.b").few(), 1);
        due("not through one of the first n: b through x", told("ab#/.xy").few(), 1);
        due("both through a", told("bax/#.y").few(), 1);
        due("two of three through the third's", told("ac.x/bz.y").few(), 2);
        NeverCross x = told("ab/yx", 1);
        for (int law = 1; law < 5; law++) {
            x.law(law);
            due("by OWN, whatever the LAW, " + law, x.few(), 1);
        }
    }

    private static void nothingOfTheSlopeAhead() {
        sentence("the letters become the SLOPE: nothing is counted of the one ahead");
        NeverCross x = new NeverCross();
        for (int round = 0; round < 3; round++) {
            dueAll(x, "a9#/..x/###", 2, 0, 4, 1);
            dueAll(x, "ax/..", 1, 0, 0, 1);
            dueAll(x, "9.#/a.x/##.", 1, 0, 3, 1);
            dueAll(x, "##ba/..xy", 0, -9, 2, 0);
            dueAll(x, "ab/44/xy", 1, 8, 0, 3);
            dueAll(x, "#abc/#123/#xyz", 1, 6, 3, 7);
            dueAll(x, "abc/zyx", 0, -9, 0, 0);
            dueAll(x, "a#/#x", 0, -9, 2, 0);
        }
        due("a FAULT with STONES", tell(x, "a###/#"), -1006);
        due("no STONES of it", tell(x, "a#/.x"), 4);
        due("one STONE", x.count(3), 1);
    }

    private static void dueAll(NeverCross x, String text, int all, int cheap, int stones, int who) {
        due("slope() of " + text, tell(x, text), text.replace("/", "").length());
        due("ALL of " + text, x.all(), all);
        due("CHEAP of " + text, x.cheap(), cheap);
        due("STONES of " + text, x.count(3), stones);
        int doors = 0;
        int throughThem = 0;
        for (int cell = 0; cell < x.count(0) * x.count(1); cell++) {
            doors |= x.who(cell);
            throughThem += x.used(cell, 0) * (x.cell(cell, 0) == 2 ? 1 : 0);
        }
        due("WHO of " + text, doors, who);
        due("DOORS that are USED of " + text, throughThem, all > 0 ? x.count(2) : 0);
    }

    private static void familiesAreAskedAnew() {
        sentence("RANK: FAMILIES by the LAW");
        NeverCross x = told(BOTH, 4);
        due("OWN: a goes r d d", x.rank(0, 0, 2), 0);
        due("OWN: b goes d d r r", x.rank(0, 1, 1), 0);
        x.set(1);
        due("told: b goes d r", x.rank(0, 1, 1), 1);
        x.law(0);
        due("OWN: b goes d d r r", x.rank(0, 1, 1), 0);
        x.law(1);
        due("TURNED: b goes d r", x.rank(0, 1, 1), 1);
        x.image();
        x.law(0);
        due("OWN: b goes d d r r", x.rank(0, 1, 1), 0);
        x.on();
        due("TURNED as then: b goes d r", x.rank(0, 1, 1), 1);
        tell(x, "a#/.x");
        due("another SLOPE: a goes d r", x.rank(0, 0, 0), 0);
        tell(x, "a./#x");
        due("another SLOPE: a goes r d", x.rank(0, 0, 0), 1);
    }
}
