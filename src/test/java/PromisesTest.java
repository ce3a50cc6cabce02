/** For each promise of the document: ordinary inputs, its edges and wrong inputs, worked out by hand. */
public final class PromisesTest extends Hand {
    public static void main(String[] args) {
        newObject();
        letter();
        slopeFaults();
        slopeKeepsAndForgets();
        cell();
        law();
        setOrder();
        alone();
        all();
        signed();
        holds();
        by();
        cheap();
        used();
        rank();
        drawn();
        most();
        shuts();
        seenAndFits();
        who();
        lost();
        few();
        boxes();
        step();
        judgeSteps();
        judgeEnds();
        judgeShared();
        clear();
        imageAndOn();
        count();
        refusalsChangeNothing();
        CHECK.end("PromisesTest");
    }

    private static void newObject() {
        NeverCross x = new NeverCross();
        for (int what = 0; what <= 7; what++) {
            due("new: count(" + what + ")", x.count(what), 0);
        }
        for (int what = 11; what <= 16; what++) {
            due("new: count(" + what + ")", x.count(what), 0);
        }
        due("new: all()", x.all(), -3);
        due("new: on()", x.on(), -3);
        due("new: most()", x.most(), 0);
        due("new: shuts()", x.shuts(), 0);
        due("new: few()", x.few(), 0);
        due("new: clear()", x.clear(), 0);
    }

    private static void letter() {
        NeverCross x = new NeverCross();
        due("letter(0)", x.letter(0), 1);
        due("letter(255)", x.letter(255), 2);
        due("letter(-1)", x.letter(-1), -4);
        due("letter(256)", x.letter(256), -6);
        for (int n = 3; n <= 48; n++) {
            due("letter " + n, x.letter('.'), n);
        }
        due("letter 49", x.letter('.'), -6);
        due("letter(-1), full", x.letter(-1), -4);
        due("count(5), full", x.count(5), 48);
        due("count(14)", x.count(14), 2);
        due("count(16)", x.count(16), 2);
        due("slope() of a sign that is none", x.slope(), -1000);
        due("letters are no more", x.letter('a'), 1);
    }

    private static void fault(String text, int want) {
        NeverCross x = new NeverCross();
        due("slope() of " + text, tell(x, text), want);
        due("letters after the fault of " + text, x.count(5), 0);
        for (int what = 11; what <= 16; what++) {
            due("a fault is no refusal: " + text, x.count(what), 0);
        }
    }

    private static void slopeFaults() {
        fault("", -1000);
        fault("/", -1000);
        fault("0", -1000);
        fault("A", -1000);
        fault("d", -1000);
        fault("w", -1000);
        fault("a", -1001);
        fault("a/", -1001);
        fault("a.", -1002);
        fault("a.//", -1003);
        fault("a./x", -1004);
        fault("a./x/", -1004);
        fault("a./x./", -1006);
        fault("a./x..", -1005);
        fault("a./.a", -1004);
        fault("ax/.x", -1004);
        fault("a....x", -1005);
        fault("ax/../../../../../", -1017);
        fault("ax/../../../../...", -1017);
        fault("ax/../../../../..x", -1017);
        fault("ab/x.", -2000);
        fault("a./xy", -2000);
        fault("a./y.", -2000);
        fault("b./x.", -2000);
        fault("b./y.", -2000);
        fault("ac/xz", -2000);
        fault("a./..", -2000);
        fault("x./..", -2000);
        fault("abc/xy.", -2000);
        fault("../..", -2000);
        fault("ab/0", -1003);
        due("the least slope", tell(new NeverCross(), "ax/.."), 4);
        due("the greatest slope", tell(new NeverCross(), "abc../...../..#../...../12345/..xyz"), 30);
        due("6 by 2", tell(new NeverCross(), "a./../../../../.x"), 12);
        due("2 by 5", tell(new NeverCross(), "a..../....x"), 10);
    }

    private static void slopeKeepsAndForgets() {
        NeverCross x = told("ab/xy");
        x.law(4);
        x.set(1);
        x.seen(0);
        x.step(0, 0);
        due("a fault", tell(x, "a./x"), -1004);
        due("after a fault: ROWS", x.count(0), 2);
        due("after a fault: DOORS", x.count(2), 2);
        due("after a fault: SEEN", x.count(4), 1);
        due("after a fault: LAW", x.count(6), 4);
        due("after a fault: TOLD", x.count(7), 1);
        due("after a fault: another", tell(x, "a./y."), -2000);
        due("after both: SEEN", x.count(4), 1);
        due("after both: a step more", x.step(0, 0), 2);
        due("another slope", tell(x, "ab#/.xy"), 6);
        due("another slope: COLUMNS", x.count(1), 3);
        due("another slope: STONES", x.count(3), 1);
        due("another slope: SEEN", x.count(4), 0);
        due("another slope: LAW stays", x.count(6), 4);
        due("another slope: TOLD as OWN", x.count(7), 10);
        due("another slope: no steps", x.clear(), 0);
        due("another slope, of three", tell(x, "abc/xyz"), 6);
        due("another slope, of three: TOLD as OWN", x.count(7), 210);
        due("another slope, of one", tell(x, "a./.x"), 4);
        due("another slope, of one: TOLD as OWN", x.count(7), 0);
    }

    private static void cell() {
        NeverCross x = told("a9#/1xb/.y.");
        int[] kinds = {2, 0, 1, 0, 3, 2, 0, 3, 0};
        int[] costs = {0, 9, 0, 1, 0, 0, 0, 0, 0};
        int[] numbers = {0, -9, -9, -9, 0, 1, -9, 1, -9};
        for (int cell = 0; cell < 9; cell++) {
            due("cell(" + cell + ", 0)", x.cell(cell, 0), kinds[cell]);
            due("cell(" + cell + ", 1)", x.cell(cell, 1), costs[cell]);
            due("cell(" + cell + ", 2)", x.cell(cell, 2), numbers[cell]);
        }
        due("cell(9, 0)", x.cell(9, 0), -1);
        due("cell(-1, 0)", x.cell(-1, 0), -1);
        due("cell(0, 3)", x.cell(0, 3), -2);
        due("cell(0, -1)", x.cell(0, -1), -2);
        due("cell(9, 3)", x.cell(9, 3), -1);
        due("count(11)", x.count(11), 3);
        due("count(12)", x.count(12), 2);
    }

    private static void law() {
        NeverCross x = new NeverCross();
        due("law(4) without a slope", x.law(4), 0);
        due("law(0)", x.law(0), 4);
        due("law(5)", x.law(5), -2);
        due("law(-1)", x.law(-1), -2);
        due("law(3)", x.law(3), 0);
        due("count(6)", x.count(6), 3);
        due("count(12)", x.count(12), 2);
        NeverCross three = told(".ca/b../..y/zx.");
        int[] byLaw = {0, 0, 0, 0, 0};
        for (int v = 0; v < 5; v++) {
            three.law(v);
            byLaw[v] = three.all();
        }
        due("OWN", byLaw[0], three.by(210));
        due("TURNED", byLaw[1], three.by(12));
        due("NEXT", byLaw[2], three.by(21));
        due("ANY", byLaw[3], three.by(210) + three.by(12) + three.by(21) + three.by(120) + three.by(201) + three.by(102));
        due("TOLD as OWN", byLaw[4], three.by(210));
    }

    /** Slopes on which just one order has families, so that each law can be told from the others. */
    private static void all() {
        String[] slopes = {"abc/xyz", "abc/zyx", "abc/yzx", "abc/zxy", "abc/xzy", "abc/yxz"};
        int[] orders = {210, 12, 21, 102, 120, 201};
        for (int i = 0; i < slopes.length; i++) {
            NeverCross x = told(slopes[i]);
            due("all() OWN of " + slopes[i], x.all(), orders[i] == 210 ? 1 : 0);
            x.law(1);
            due("all() TURNED of " + slopes[i], x.all(), orders[i] == 12 ? 1 : 0);
            x.law(2);
            due("all() NEXT of " + slopes[i], x.all(), orders[i] == 21 ? 1 : 0);
            x.law(3);
            due("all() ANY of " + slopes[i], x.all(), 1);
            x.law(4);
            due("all() TOLD as OWN of " + slopes[i], x.all(), orders[i] == 210 ? 1 : 0);
            x.set(orders[i]);
            due("all() TOLD of " + slopes[i], x.all(), 1);
            due("holds() of " + slopes[i], x.holds(), orders[i] == 210 ? 1 : 0);
        }
        NeverCross one = told("a../..x");
        due("all() of one", one.all(), 3);
        one.law(2);
        due("all() NEXT of one", one.all(), 3);
        one.law(1);
        due("all() TURNED of one", one.all(), 3);
        NeverCross through = told("abx/..y");
        due("none goes through another door", through.all(), 0);
        due("all() without a slope", new NeverCross().all(), -3);
    }

    private static void setOrder() {
        NeverCross x = told("ab/xy");
        due("set(10)", x.set(10), 10);
        due("set(1)", x.set(1), 10);
        due("set(1) again", x.set(1), 1);
        due("count(7)", x.count(7), 1);
        int[] bad = {0, 11, 2, 12, 20, 100, 101, 110, 210, -1, -10, Integer.MIN_VALUE, Integer.MAX_VALUE};
        for (int order : bad) {
            due("set(" + order + ")", x.set(order), -1);
        }
        due("count(7) after them", x.count(7), 1);
        due("count(11)", x.count(11), bad.length);
        NeverCross three = told("abc/xyz");
        int was = 210;
        for (int order : new int[] {210, 120, 201, 21, 102, 12}) {
            due("set(" + order + ") of three", three.set(order), was);
            was = order;
        }
        due("set(10) of three", three.set(10), -1);
        due("set(1210) of three", three.set(1210), -1);
        NeverCross one = told("ax/..");
        due("set(0) of one", one.set(0), 0);
        due("set(10) of one", one.set(10), -1);
        NeverCross none = new NeverCross();
        due("set(-1) without a slope", none.set(-1), -3);
        due("its count(13)", none.count(13), 1);
    }

    private static void alone() {
        NeverCross x = told("ab./..x/.y.");
        due("alone(0, 0)", x.alone(0, 0), 3);
        due("alone(0, 1)", x.alone(0, 1), 3);
        due("alone(1, 0)", x.alone(1, 0), 2);
        due("alone(1, 1)", x.alone(1, 1), 1);
        due("alone(2, 0)", x.alone(2, 0), -1);
        due("alone(0, 2)", x.alone(0, 2), -1);
        due("alone(-1, -1)", x.alone(-1, -1), -1);
        due("count(11)", x.count(11), 3);
        due("through the other door and well", told("aby/..x").alone(0, 0), 3);
        due("up it does not go", told("x./.a").alone(0, 0), 0);
        due("left it does not go", told("xa/..").alone(0, 0), 0);
        due("not from the end of a row to the next", told("..a/x..").alone(0, 0), 0);
        due("not into stones", told("a#/.x").alone(0, 0), 1);
        due("from corner to corner", told("a..../...../...../...../...../....x").alone(0, 0), 126);
    }

    private static void signed() {
        due("signed() OWN", told("ab/xy").signed(), 1);
        due("signed() turned", told("ab./..x/.y.").signed(), -3);
        due("signed() of three, turned", told("abc/zyx").signed(), -1);
        due("signed() of three, gone round", told("abc/yzx").signed(), 1);
        due("signed() is without the law", told("ab/yx").signed(), -1);
        due("signed() of one", told("a../..x").signed(), 3);
        NeverCross none = new NeverCross();
        due("signed() without a slope", none.signed(), 1000000003);
        due("its count(13)", none.count(13), 1);
    }

    private static void holds() {
        due("holds() OWN", told("ab/xy").holds(), 1);
        due("holds() not", told("ab./..x/.y.").holds(), 0);
        due("holds() without any family", told("a#/#x").holds(), 1);
        due("holds() both orders", told("a../b../.x./..y").holds(), 0);
        NeverCross any = told("ab/yx");
        any.law(3);
        due("holds() is without the law", any.holds(), 0);
        NeverCross none = new NeverCross();
        due("holds() without a slope", none.holds(), -3);
        due("its count(13)", none.count(13), 1);
    }

    private static void by() {
        NeverCross x = told("ab./..x/.y.");
        x.law(3);
        due("by(1)", x.by(1), 3);
        due("by(10)", x.by(10), 0);
        due("by(0)", x.by(0), -1);
        due("by(-1)", x.by(-1), -1);
        due("by(101)", x.by(101), -1);
        due("count(11)", x.count(11), 3);
        due("by() tells nothing", x.count(7), 10);
        NeverCross one = told("a../..x");
        due("by(0) of one", one.by(0), 3);
        due("by(1) of one", one.by(1), -1);
        due("by(-1) without a slope", new NeverCross().by(-1), -3);
    }

    private static void cheap() {
        due("cheap()", told("a5./.2x").cheap(), 2);
        due("cheap() of all cells", told("ab/12/34/xy").cheap(), 10);
        due("cheap() none", told("a#/#x").cheap(), -9);
        NeverCross turned = told("a15/b91/1xy");
        due("cheap() where OWN has none", turned.cheap(), -9);
        turned.law(1);
        due("cheap() TURNED", turned.cheap(), 8);
        turned.law(3);
        due("cheap() ANY", turned.cheap(), 8);
        NeverCross both = told("a../b../.x./4.y");
        due("cheap() OWN goes the dear way", both.cheap(), 4);
        both.law(1);
        due("cheap() TURNED goes the other", both.cheap(), 0);
        both.law(3);
        due("cheap() ANY goes the cheapest", both.cheap(), 0);
        NeverCross none = new NeverCross();
        due("cheap() without a slope", none.cheap(), -3);
        due("its count(13)", none.count(13), 1);
    }

    private static void used() {
        NeverCross x = told("a5./.2x");
        int[] above = {1, 2, 1, 1, 2, 1};
        int[] below = {1, 3, 3, 3, 3, 1};
        for (int cell = 0; cell < 6; cell++) {
            due("used(" + cell + ", 0)", x.used(cell, 0), above[cell]);
            due("used(" + cell + ", 1)", x.used(cell, 1), below[cell]);
        }
        NeverCross half = told("a.#/..x");
        due("in least terms", half.used(1, 0) * 10 + half.used(1, 1), 12);
        due("never, above", half.used(2, 0), 0);
        due("never, below", half.used(2, 1), 1);
        NeverCross shut = told("a#/#x");
        due("without families, above", shut.used(0, 0), 0);
        due("without families, below", shut.used(0, 1), 1);
        due("used(6, 0)", x.used(6, 0), -1);
        due("used(-1, 2)", x.used(-1, 2), -1);
        due("used(0, 2)", x.used(0, 2), -2);
        due("used(0, -1)", x.used(0, -1), -2);
        due("used(0, 0) without a slope", new NeverCross().used(0, 0), -1);
    }

    private static void rank() {
        NeverCross x = told("a5./.2x");
        CHECK.yes("the first is drr", ranked(x, 0, 0).equals("drr"));
        CHECK.yes("the next is rdr", ranked(x, 1, 0).equals("rdr"));
        CHECK.yes("the last is rrd", ranked(x, 2, 0).equals("rrd"));
        due("rank(0, 0, 3)", x.rank(0, 0, 3), -9);
        due("rank(3, 0, 0)", x.rank(3, 0, 0), -9);
        due("rank of the greatest", x.rank(Integer.MAX_VALUE, 0, Integer.MAX_VALUE), -9);
        due("rank(2, 0, greatest)", x.rank(2, 0, Integer.MAX_VALUE), -9);
        due("rank(-1, 0, 0)", x.rank(-1, 0, 0), -4);
        due("rank(0, 0, -1)", x.rank(0, 0, -1), -4);
        due("rank(-1, 1, -1)", x.rank(-1, 1, -1), -1);
        due("rank(0, -1, 0)", x.rank(0, -1, 0), -1);
        due("count(14)", x.count(14), 2);
        due("count(11)", x.count(11), 2);
        NeverCross turned = told("ab./..x/.y.");
        due("by OWN there is none", turned.rank(0, 0, 0), -9);
        turned.law(1);
        CHECK.yes("0: a", ranked(turned, 0, 0).equals("ddr"));
        CHECK.yes("0: b", ranked(turned, 0, 1).equals("dr"));
        CHECK.yes("1: a", ranked(turned, 1, 0).equals("ddr"));
        CHECK.yes("1: b", ranked(turned, 1, 1).equals("rd"));
        CHECK.yes("2: a", ranked(turned, 2, 0).equals("drd"));
        CHECK.yes("2: b", ranked(turned, 2, 1).equals("rd"));
        turned.law(0);
        due("the law is asked anew", turned.rank(2, 0, 0), -9);
        turned.law(4);
        turned.set(1);
        CHECK.yes("by TOLD", ranked(turned, 2, 0).equals("drd"));
        turned.set(10);
        due("what is told is asked anew", turned.rank(2, 0, 0), -9);
        turned.set(1);
        due("asked ahead of an image", turned.rank(0, 0, 1), 0);
        turned.image();
        turned.law(3);
        tell(turned, "a../..x");
        CHECK.yes("another slope is asked anew", ranked(turned, 0, 0).equals("drr"));
        turned.on();
        CHECK.yes("on from the image it is asked anew", ranked(turned, 0, 0).equals("ddr"));
        tell(turned, "a#/.x");
        CHECK.yes("another slope by the same law", ranked(turned, 0, 0).equals("dr"));
        due("rank(0, 0, 0) without a slope", new NeverCross().rank(0, 0, 0), -1);
    }

    /** Of three families: 0 draws number 2, -1 draws 1; 1000000 gives a z with its sign's bit, which draws 1. */
    private static void drawn() {
        NeverCross x = told("a5./.2x");
        int[] seeds = {0, -1, 1000000};
        int[] numbers = {2, 1, 1};
        for (int i = 0; i < seeds.length; i++) {
            for (int step = 0; step < 5; step++) {
                due("drawn(" + seeds[i] + ", 0, " + step + ")", x.drawn(seeds[i], 0, step), x.rank(numbers[i], 0, step));
            }
        }
        due("drawn(0, 0, 3)", x.drawn(0, 0, 3), -9);
        due("drawn(0, 0, 2)", x.drawn(0, 0, 2), 0);
        due("drawn(0, 1, -1)", x.drawn(0, 1, -1), -1);
        due("drawn(0, 0, -1)", x.drawn(0, 0, -1), -4);
        due("drawn of one family", told("a#/.x").drawn(5, 0, 1), 1);
        NeverCross shut = told("a#/#x");
        due("drawn of none", shut.drawn(5, 0, 0), -9);
        due("drawn of none, a step below", shut.drawn(5, 0, -1), -4);
        due("drawn without a slope", new NeverCross().drawn(0, 0, 0), -1);
    }

    private static void most() {
        due("most() of both", told("ab/xy").most(), 2);
        due("most() to any wells", told("ab./..x/.y.").most(), 2);
        due("most() none", told("a#/#x").most(), 0);
        due("not through a door of nobody", told("abx/#.y").most(), 1);
        due("not through a well of nobody", told("ax/b#/y#").most(), 2);
        due("a well shuts what is behind it", told("axy/###/b..").most(), 1);
        due("one from any door", told("xa#/b#y").most(), 0);
        due("another door than the first", told("x.b/a.y").most(), 1);
        NeverCross x = told("ab/yx");
        due("without the law", x.most(), 2);
    }

    private static void shuts() {
        due("shuts() of one way", told("a#./.2x").shuts(), 24);
        due("shuts() of more", told("a../..x").shuts(), 0);
        due("doors and wells not", told("ab/xy").shuts(), 0);
        due("shuts() of none", told("a#/#x").shuts(), 0);
        due("all the way", told("a..../####./####./####./####./####x").shuts(), 0x01084210 | 0x1e);
        due("a narrow place", told("a../#.#/..x").shuts(), 1 << 1 | 1 << 4 | 1 << 7);
    }

    private static void seenAndFits() {
        NeverCross x = told("a5./.2x");
        due("fits() without SEEN CELLS", x.fits(), 3);
        due("seen(1)", x.seen(1), 1);
        due("fits() 1", x.fits(), 2);
        due("seen(4)", x.seen(4), 2);
        due("fits() 2", x.fits(), 1);
        due("seen(0)", x.seen(0), 3);
        due("fits() 3", x.fits(), 1);
        due("seen(-1)", x.seen(-1), -1);
        due("seen(6)", x.seen(6), -1);
        due("seen(3)", x.seen(3), 4);
        due("fits() 4", x.fits(), 0);
        due("seen(0), full", x.seen(0), -6);
        due("seen(6), full", x.seen(6), -1);
        due("count(4)", x.count(4), 4);
        due("count(11)", x.count(11), 3);
        due("count(16)", x.count(16), 1);
        NeverCross two = told("ab./..x/.y.");
        two.law(1);
        two.seen(2);
        two.seen(6);
        due("one of them or another", two.fits(), 1);
        two.law(0);
        due("by the law", two.fits(), 0);
        NeverCross stone = told("a#/.x");
        stone.seen(1);
        due("in a stone nobody goes", stone.fits(), 0);
        due("fits() without a slope", new NeverCross().fits(), -3);
    }

    private static void who() {
        NeverCross x = told("ab./..x/.y.");
        due("who by OWN", x.who(0), 0);
        x.law(3);
        int[] bits = {1, 2, 2, 1, 3, 2, 1, 1, 0};
        for (int cell = 0; cell < 9; cell++) {
            due("who(" + cell + ")", x.who(cell), bits[cell]);
        }
        due("who(9)", x.who(9), -1);
        due("who(-1)", x.who(-1), -1);
        due("who(0) without a slope", new NeverCross().who(0), -1);
    }

    private static void lost() {
        NeverCross x = told("a5./.2x");
        due("lost(1)", x.lost(1), 2);
        due("lost(3)", x.lost(3), 1);
        due("lost(4)", x.lost(4), 2);
        due("lost(0)", x.lost(0), -3);
        due("lost(5)", x.lost(5), -3);
        due("lost(6)", x.lost(6), -1);
        due("lost(-1)", x.lost(-1), -1);
        due("the slope stays", x.all(), 3);
        due("lost of a stone", told("a#/.x").lost(1), -3);
        NeverCross two = told("ab./..x/.y.");
        due("lost by OWN", two.lost(4), 0);
        two.law(1);
        due("lost by TURNED", two.lost(4), 2);
        due("lost(0) without a slope", new NeverCross().lost(0), -1);
    }

    private static void few() {
        due("few() both", told("ab/xy").few(), 2);
        due("few() one", told("ab./..x/.y.").few(), 1);
        due("through other doors", told("abx/..y").few(), 1);
        due("through other wells", told("ayx/..b").few(), 1);
        due("few() none", told("a#/#x").few(), 0);
        due("few() of three", told("abc/xyz").few(), 3);
        due("few() two of three", told("abz/xyc").few(), 2);
        due("without door 0 none", told("xa/by").few(), 0);
        NeverCross x = told("ab/yx");
        x.law(1);
        due("few() is by OWN", x.few(), 1);
    }

    private static void boxes() {
        NeverCross x = new NeverCross();
        due("boxes(0, 0, 0)", x.boxes(0, 0, 0), 1);
        due("boxes(4, 4, 0)", x.boxes(4, 4, 0), 1);
        due("boxes(0, 4, 4)", x.boxes(0, 4, 4), 1);
        due("boxes(1, 1, 4)", x.boxes(1, 1, 4), 5);
        due("boxes(1, 4, 1)", x.boxes(1, 4, 1), 5);
        due("boxes(2, 2, 2)", x.boxes(2, 2, 2), 20);
        due("boxes(3, 2, 1)", x.boxes(3, 2, 1), 10);
        due("boxes(4, 4, 4)", x.boxes(4, 4, 4), 232848);
        due("boxes(-1, 5, 0)", x.boxes(-1, 5, 0), -4);
        due("boxes(5, -1, 0)", x.boxes(5, -1, 0), -4);
        due("boxes(5, 0, -1)", x.boxes(5, 0, -1), -4);
        due("boxes(5, 0, 0)", x.boxes(5, 0, 0), -6);
        due("boxes(0, 5, 0)", x.boxes(0, 5, 0), -6);
        due("boxes(0, 0, 5)", x.boxes(0, 0, 5), -6);
        due("count(14)", x.count(14), 3);
        due("count(16)", x.count(16), 3);
    }

    private static void step() {
        NeverCross x = told("ab/xy");
        for (int n = 1; n <= 10; n++) {
            due("step " + n, x.step(1, n & 1), n);
        }
        due("step 11", x.step(1, 0), -6);
        due("step(1, 2), full", x.step(1, 2), -2);
        due("step(1, -1)", x.step(1, -1), -2);
        due("step(2, 2)", x.step(2, 2), -1);
        due("step(-1, 0)", x.step(-1, 0), -1);
        due("step(0, 0)", x.step(0, 0), 1);
        due("count(16)", x.count(16), 1);
        due("step(0, 0) without a slope", new NeverCross().step(0, 0), -1);
    }

    private static void judgeSteps() {
        NeverCross x = told("ab.#/..../..xy");
        walk(x, 1, "rr");
        due("into a stone", x.judge(), 1021);
        walk(x, 0, "ddd");
        due("a lesser door first", x.judge(), 1002);
        x.clear();
        walk(x, 1, "drrr");
        due("out on the right", x.judge(), 1023);
        NeverCross first = told("a#/.x");
        walk(first, 0, "r");
        due("the first step", first.judge(), 1000);
        NeverCross three = told("abc/.../xyz");
        walk(three, 2, "r");
        due("the third door", three.judge(), 1040);
        due("judge() without a slope", new NeverCross().judge(), -3);
    }

    private static void judgeEnds() {
        NeverCross x = told("ab/xy");
        due("nothing told", x.judge(), 100);
        walk(x, 0, "rd");
        due("the other's well", x.judge(), 100);
        x.law(1);
        due("by TURNED its well, but b nowhere", x.judge(), 101);
        x.law(4);
        due("by TOLD as OWN", x.judge(), 100);
        x.set(1);
        due("by TOLD", x.judge(), 101);
        x.law(3);
        walk(x, 1, "d");
        due("by ANY both in one well, least cell b", x.judge(), 1);
        x.clear();
        walk(x, 0, "d");
        due("by ANY one not in a well", x.judge(), 101);
        NeverCross past = told("ax./..b/..y");
        walk(past, 0, "rr");
        due("past its well", past.judge(), 100);
    }

    private static void judgeShared() {
        NeverCross x = told("ab/xy");
        walk(x, 0, "d");
        walk(x, 1, "d");
        due("apart", x.judge(), -9);
        NeverCross cross = told("ab./..x/.y.");
        walk(cross, 0, "drr");
        walk(cross, 1, "dd");
        due("in one cell", cross.judge(), 4);
        NeverCross door = told("abx/..y");
        walk(door, 0, "rr");
        walk(door, 1, "dr");
        due("in a door", door.judge(), 1);
        NeverCross well = told("a.b/.yx");
        walk(well, 0, "drr");
        walk(well, 1, "d");
        due("b does not get to y", well.judge(), 101);
        well.law(3);
        due("by ANY both in x", well.judge(), 5);
        NeverCross through = told("ab#/.y./..x");
        walk(through, 0, "drrd");
        walk(through, 1, "d");
        due("in a well", through.judge(), 4);
    }

    private static void clear() {
        NeverCross x = told("ab/xy");
        walk(x, 0, "dr");
        walk(x, 1, "d");
        x.seen(1);
        due("clear()", x.clear(), 3);
        due("SEEN", x.count(4), 0);
        due("clear() again", x.clear(), 0);
        due("a first step", x.step(0, 0), 1);
        due("the slope stays", x.count(0), 2);
    }

    private static void imageAndOn() {
        NeverCross x = told("ab./..x/.y.");
        x.law(4);
        x.set(1);
        x.seen(4);
        walk(x, 0, "ddr");
        walk(x, 1, "dr");
        x.letter('q');
        due("image()", x.image(), 9);
        x.clear();
        x.seen(0);
        x.seen(1);
        walk(x, 0, "rrrrr");
        x.law(0);
        x.set(10);
        due("letters are as they are", x.count(5), 1);
        x.slope();
        due("another slope", tell(x, "a#/#x"), 4);
        x.letter('a');
        x.all();
        x.law(9);
        due("on()", x.on(), 9);
        due("the LAW", x.count(6), 4);
        due("TOLD", x.count(7), 1);
        due("SEEN", x.count(4), 1);
        due("STONES", x.count(3), 0);
        due("all()", x.all(), 3);
        due("fits()", x.fits(), 2);
        due("judge()", x.judge(), -9);
        due("letters are not of the image", x.count(5), 1);
        due("refusals are not of the image", x.count(12), 1);
        due("clear()", x.clear(), 5);
        due("on() again", x.on(), 9);
        due("judge() again", x.judge(), -9);
        due("rank", x.rank(2, 0, 2), 0);
        NeverCross empty = new NeverCross();
        due("on() without an image", empty.on(), -3);
        due("image() without a slope", empty.image(), 0);
        tell(empty, "ab/xy");
        empty.law(3);
        empty.all();
        due("on() to no slope", empty.on(), 0);
        due("no slope", empty.all(), -3);
        due("no DOORS", empty.count(2), 0);
        due("no TOLD", empty.count(7), 0);
        due("no MOST", empty.most(), 0);
        due("the LAW as then", empty.count(6), 0);
        due("count(13)", empty.count(13), 2);
    }

    private static void count() {
        NeverCross x = told("ab.#/#.../..xy");
        int[] want = {3, 4, 2, 2, 0, 0, 0, 10};
        for (int what = 0; what < want.length; what++) {
            due("count(" + what + ")", x.count(what), want[what]);
        }
        for (int what : new int[] {-1, 8, 9, 10, 17, Integer.MIN_VALUE, Integer.MAX_VALUE}) {
            due("count(" + what + ")", x.count(what), -9);
        }
        for (int what = 11; what <= 16; what++) {
            due("-9 is no refusal", x.count(what), 0);
        }
    }

    /** All that can be asked without changing anything. */
    private static long look(NeverCross x) {
        long sum = 0;
        for (int what = 0; what <= 7; what++) {
            sum = sum * 31 + x.count(what);
        }
        int[] answers = {x.all(), x.cheap(), x.fits(), x.judge(), x.most(), x.shuts(), x.few(), x.rank(1, 1, 0)};
        for (int answer : answers) {
            sum = sum * 31 + answer;
        }
        return sum;
    }

    private static void refusalsChangeNothing() {
        NeverCross x = told("ab./.3x/.y.");
        x.law(4);
        x.set(1);
        for (int i = 0; i < 4; i++) {
            x.seen(4);
        }
        walk(x, 0, "dddddddddd");
        x.letter('a');
        long before = look(x);
        int[] refused = {x.letter(-1), x.letter(256), x.cell(9, 0), x.cell(0, 3), x.law(5), x.set(11), x.alone(0, 2),
            x.by(0), x.used(-1, 0), x.used(0, 2), x.rank(0, 2, 0), x.rank(-1, 0, 0), x.drawn(0, -1, 0),
            x.drawn(0, 0, -1), x.seen(9), x.seen(0), x.who(9), x.lost(9), x.lost(0), x.boxes(-1, 0, 0),
            x.boxes(5, 0, 0), x.step(2, 0), x.step(0, 2), x.step(0, 0), x.on()};
        int[] want = {-4, -6, -1, -2, -2, -1, -1, -1, -1, -2, -1, -4, -1, -4, -1, -6, -1, -1, -3, -4, -6, -1, -2, -6, -3};
        int[] times = new int[7];
        for (int i = 0; i < want.length; i++) {
            due("refusal " + i, refused[i], want[i]);
            times[-want[i]]++;
        }
        due("nothing is changed", look(x), before);
        for (int n = 1; n <= 6; n++) {
            due("count(" + (10 + n) + ")", x.count(10 + n), times[n]);
        }
    }
}
