import java.util.ArrayList;
import java.util.List;

/**
 * REFUSALS: "the call answers the number, the first that fits in the order in which it tells them; nothing changes but
 * how many there were". Each refused call is made on one of two objects that were told the same; after it both are
 * looked at with all calls there are, and have to differ in the one count alone.
 */
public final class RefusalsTest extends Hand {
    private static final int[] NONE_SUCH = {-1, -2, Integer.MIN_VALUE, Integer.MAX_VALUE};

    /** A call to be refused. */
    private interface Call {
        int on(NeverCross x);
    }

    /** What an object is told ahead of the call. */
    private interface Story {
        NeverCross tell();
    }

    private static final Story[] ALL = {RefusalsTest::fresh, RefusalsTest::emptyButLetters, RefusalsTest::ofTwo,
        RefusalsTest::full, RefusalsTest::ofOne};
    private static final Story[] WITHOUT = {RefusalsTest::fresh, RefusalsTest::emptyButLetters};
    private static final Story[] WITH = {RefusalsTest::ofTwo, RefusalsTest::full, RefusalsTest::ofOne};
    private static final Story[] FULL = {RefusalsTest::full};

    public static void main(String[] args) {
        lookSeesEachChange();
        letters();
        cells();
        laws();
        orders();
        alone();
        withoutSlope();
        used();
        ranked();
        drawn();
        seen();
        whoAndLost();
        boxes();
        steps();
        on();
        numbersOfRefusals();
        CHECK.end("RefusalsTest");
    }

    private static NeverCross fresh() {
        return new NeverCross();
    }

    private static NeverCross emptyButLetters() {
        NeverCross x = new NeverCross();
        x.law(4);
        x.image();
        x.law(3);
        x.letter('a');
        x.letter('x');
        return x;
    }

    private static NeverCross ofOne() {
        return told("ax/..");
    }

    /** Letters of a slope that lacks its end, an image of another state, told ways that are apart by TOLD. */
    private static NeverCross ofTwo() {
        NeverCross x = told("ab/xy", 2);
        x.image();
        tell(x, "ab./.3x/.y.");
        x.law(4);
        x.set(1);
        x.seen(4);
        walk(x, 0, "ddr");
        walk(x, 1, "rd");
        for (char c : "ab#/.yx/..".toCharArray()) {
            x.letter(c);
        }
        return x;
    }

    private static NeverCross full() {
        NeverCross x = told("ab./.3x/.y.", 3);
        for (int i = 0; i < 4; i++) {
            x.seen(4);
        }
        for (int i = 0; i < 10; i++) {
            x.step(0, 0);
            x.step(1, 1);
        }
        for (int i = 0; i < 48; i++) {
            x.letter("ab./xy.".charAt(i % 7));
        }
        return x;
    }

    private static void refused(Story[] stories, String name, int refusal, Call call) {
        for (int i = 0; i < stories.length; i++) {
            NeverCross one = stories[i].tell();
            NeverCross other = stories[i].tell();
            String about = name + " after story " + i;
            int ahead = refusal == 0 ? 0 : one.count(10 - refusal);
            int got = call.on(one);
            due(about, got, refusal);
            for (int n = 1; n <= 6; n++) {
                due(about + ": count(" + (10 + n) + ")", one.count(10 + n), other.count(10 + n) + (n == -refusal ? 1 : 0));
            }
            due(about + ": one more", one.count(10 - refusal), ahead + 1);
            List<Integer> changed = look(one);
            List<Integer> asItWas = look(other);
            CHECK.yes(about + " changes nothing else", changed.equals(asItWas));
        }
    }

    private static void refused(Story[] stories, String name, int refusal, int[] arguments, ArgumentCall call) {
        for (int v : arguments) {
            refused(stories, name + " " + v, refusal, x -> call.on(x, v));
        }
    }

    private interface ArgumentCall {
        int on(NeverCross x, int v);
    }

    /** Everything that can be asked, then what stands when the ways are cleared, the letters taken, the image taken up. */
    private static List<Integer> look(NeverCross x) {
        List<Integer> seen = new ArrayList<>();
        lookOnce(x, seen);
        for (int door = 0; door < x.count(2); door++) {
            seen.add(x.step(door, 1));
        }
        seen.add(x.judge());
        seen.add(x.clear());
        seen.add(x.slope());
        lookOnce(x, seen);
        seen.add(x.on());
        lookOnce(x, seen);
        return seen;
    }

    private static void lookOnce(NeverCross x, List<Integer> seen) {
        for (int what = 0; what <= 7; what++) {
            seen.add(x.count(what));
        }
        int[] answers = {x.all(), x.signed(), x.holds(), x.cheap(), x.most(), x.shuts(), x.fits(), x.few(), x.judge()};
        for (int answer : answers) {
            seen.add(answer);
        }
        int cells = x.count(0) * x.count(1);
        for (int cell = 0; cell < cells; cell++) {
            seen.add(x.cell(cell, 0) * 100 + x.cell(cell, 1) * 10 + x.cell(cell, 2));
            seen.add(x.used(cell, 0) * 100 + x.used(cell, 1));
            seen.add(x.who(cell));
        }
        for (int step = 0; step < 4; step++) {
            seen.add(x.rank(step, 0, step));
            seen.add(x.rank(1, 1, step));
            seen.add(x.drawn(step, 0, step));
        }
        seen.add(x.by(10));
        seen.add(x.alone(0, 0));
    }

    /** That a look is worth something: it differs after each call that changes something. */
    private static void lookSeesEachChange() {
        sentence("a look at all sees each change");
        Call[] changes = {x -> x.letter('.'), x -> x.slope(), x -> x.law(1), x -> x.set(10), x -> x.seen(0),
            x -> x.step(0, 0), x -> x.step(1, 0), x -> x.clear(), x -> x.image(), x -> x.on()};
        for (int i = 0; i < changes.length; i++) {
            NeverCross one = ofTwo();
            changes[i].on(one);
            CHECK.yes("change " + i + " is seen", !look(one).equals(look(ofTwo())));
        }
        CHECK.yes("and nothing else is", look(ofTwo()).equals(look(ofTwo())));
    }

    private static void letters() {
        sentence("Promise 2: -4; -6 (255; 48, too)");
        refused(ALL, "letter", -4, new int[] {-1, -2, -255, -256, Integer.MIN_VALUE}, NeverCross::letter);
        refused(ALL, "letter", -6, new int[] {256, 257, 1 << 16, Integer.MAX_VALUE}, NeverCross::letter);
        refused(FULL, "letter", -6, new int[] {0, '.', 255, 256}, NeverCross::letter);
    }

    private static void cells() {
        sentence("Promise 4: -1; -2");
        int[] whats = {-1, 3, 4, Integer.MIN_VALUE, Integer.MAX_VALUE};
        for (int what : new int[] {0, 1, 2, 3, -1}) {
            refused(WITHOUT, "cell(0, " + what + ")", -1, x -> x.cell(0, what));
            refused(ALL, "cell, " + what, -1, NONE_SUCH, (x, v) -> x.cell(v, what));
            refused(ALL, "the first beyond, " + what, -1, x -> x.cell(x.count(0) * x.count(1), what));
        }
        refused(WITH, "cell(0, what)", -2, whats, (x, v) -> x.cell(0, v));
        refused(WITH, "cell(3, what)", -2, whats, (x, v) -> x.cell(3, v));
    }

    private static void laws() {
        sentence("Promise 5: -2");
        refused(ALL, "law", -2, new int[] {-1, 5, 6, Integer.MIN_VALUE, Integer.MAX_VALUE}, NeverCross::law);
    }

    private static void orders() {
        sentence("Promises 6, 11: -3; -1 it is no order of all WELLS (below 0, too)");
        int[] none = {-1, -10, -210, 2, 11, 12, 20, 100, 101, 110, 210, 1010, Integer.MIN_VALUE, Integer.MAX_VALUE};
        refused(WITHOUT, "set", -3, none, NeverCross::set);
        refused(WITHOUT, "set", -3, new int[] {0, 1, 10}, NeverCross::set);
        refused(WITHOUT, "by", -3, none, NeverCross::by);
        refused(WITHOUT, "by", -3, new int[] {0, 1, 10}, NeverCross::by);
        refused(WITH, "set", -1, none, NeverCross::set);
        refused(WITH, "by", -1, none, NeverCross::by);
        refused(new Story[] {RefusalsTest::ofTwo}, "set", -1, new int[] {0, 100}, NeverCross::set);
        refused(new Story[] {RefusalsTest::ofOne}, "set", -1, new int[] {1, 10}, NeverCross::set);
        refused(new Story[] {RefusalsTest::ofTwo}, "by", -1, new int[] {0, 100}, NeverCross::by);
        refused(new Story[] {RefusalsTest::ofOne}, "by", -1, new int[] {1, 10}, NeverCross::by);
    }

    private static void alone() {
        sentence("Promise 7: -1 either");
        refused(WITHOUT, "alone(0, 0)", -1, x -> x.alone(0, 0));
        refused(ALL, "alone(v, 0)", -1, NONE_SUCH, (x, v) -> x.alone(v, 0));
        refused(ALL, "alone(0, v)", -1, NONE_SUCH, (x, v) -> x.alone(0, v));
        refused(ALL, "alone(v, v), counted once", -1, NONE_SUCH, (x, v) -> x.alone(v, v));
        refused(ALL, "alone, the first beyond", -1, x -> x.alone(x.count(2), 0));
        refused(ALL, "alone, the first beyond", -1, x -> x.alone(0, x.count(2)));
    }

    private static void withoutSlope() {
        sentence("Promises 8 to 12, 19, 25: -3 no SLOPE");
        refused(WITHOUT, "all()", -3, NeverCross::all);
        refused(WITHOUT, "holds()", -3, NeverCross::holds);
        refused(WITHOUT, "cheap()", -3, NeverCross::cheap);
        refused(WITHOUT, "fits()", -3, NeverCross::fits);
        refused(WITHOUT, "judge()", -3, NeverCross::judge);
        sentence("of signed() REFUSALS are 1000000000 less them");
        refused(WITHOUT, "signed()", -3, x -> 1000000000 - x.signed());
    }

    private static void used() {
        sentence("Promise 13: -1; -2");
        int[] parts = {-1, 2, 3, Integer.MIN_VALUE, Integer.MAX_VALUE};
        for (int part : new int[] {0, 1, 2, -1}) {
            refused(WITHOUT, "used(0, " + part + ")", -1, x -> x.used(0, part));
            refused(ALL, "used, " + part, -1, NONE_SUCH, (x, v) -> x.used(v, part));
            refused(ALL, "the first beyond, " + part, -1, x -> x.used(x.count(0) * x.count(1), part));
        }
        refused(WITH, "used(0, part)", -2, parts, (x, v) -> x.used(0, v));
        refused(WITH, "used(3, part)", -2, parts, (x, v) -> x.used(3, v));
    }

    private static void ranked() {
        sentence("Promise 14: -1; -4 (k, step)");
        for (int k : new int[] {0, -1, Integer.MAX_VALUE}) {
            for (int step : new int[] {0, -1, Integer.MAX_VALUE}) {
                refused(WITHOUT, "rank(k, 0, step)", -1, x -> x.rank(k, 0, step));
                refused(ALL, "rank(k, door, step)", -1, NONE_SUCH, (x, v) -> x.rank(k, v, step));
                refused(ALL, "rank, the first beyond", -1, x -> x.rank(k, x.count(2), step));
            }
        }
        int[] below = {-1, -2, Integer.MIN_VALUE};
        refused(WITH, "rank(v, 0, 0)", -4, below, (x, v) -> x.rank(v, 0, 0));
        refused(WITH, "rank(0, 0, v)", -4, below, (x, v) -> x.rank(0, 0, v));
        refused(WITH, "rank(v, 0, v), counted once", -4, below, (x, v) -> x.rank(v, 0, v));
        refused(WITH, "rank of none such, below", -4, below, (x, v) -> x.rank(Integer.MAX_VALUE, 0, v));
    }

    private static void drawn() {
        sentence("Promise 15: -1; -4 step");
        int[] below = {-1, -2, Integer.MIN_VALUE};
        for (int z : new int[] {0, -1, Integer.MIN_VALUE, Integer.MAX_VALUE}) {
            for (int step : new int[] {0, -1, Integer.MAX_VALUE}) {
                refused(WITHOUT, "drawn(z, 0, step)", -1, x -> x.drawn(z, 0, step));
                refused(ALL, "drawn(z, door, step)", -1, NONE_SUCH, (x, v) -> x.drawn(z, v, step));
                refused(ALL, "drawn, the first beyond", -1, x -> x.drawn(z, x.count(2), step));
            }
            refused(WITH, "drawn(z, 0, v)", -4, below, (x, v) -> x.drawn(z, 0, v));
        }
        refused(new Story[] {() -> told("a#/#x")}, "drawn of no FAMILY", -4, below, (x, v) -> x.drawn(0, 0, v));
    }

    private static void seen() {
        sentence("Promise 18: -1; -6 4");
        refused(WITHOUT, "seen(0)", -1, x -> x.seen(0));
        refused(ALL, "seen", -1, NONE_SUCH, NeverCross::seen);
        refused(ALL, "seen, the first beyond", -1, x -> x.seen(x.count(0) * x.count(1)));
        refused(FULL, "seen", -6, new int[] {0, 4, 8}, NeverCross::seen);
    }

    private static void whoAndLost() {
        sentence("Promise 20: -1");
        refused(WITHOUT, "who(0)", -1, x -> x.who(0));
        refused(ALL, "who", -1, NONE_SUCH, NeverCross::who);
        refused(ALL, "who, the first beyond", -1, x -> x.who(x.count(0) * x.count(1)));
        sentence("Promise 21: -1; -3 there is something");
        refused(WITHOUT, "lost(0)", -1, x -> x.lost(0));
        refused(ALL, "lost", -1, NONE_SUCH, NeverCross::lost);
        refused(ALL, "lost, the first beyond", -1, x -> x.lost(x.count(0) * x.count(1)));
        refused(WITH, "lost of a DOOR", -3, x -> x.lost(0));
        refused(new Story[] {RefusalsTest::ofOne}, "lost of a WELL", -3, x -> x.lost(1));
        refused(new Story[] {() -> told("a#/.x")}, "lost of STONE, WELL", -3, new int[] {1, 3}, NeverCross::lost);
    }

    private static void boxes() {
        sentence("Promise 23: -4; -6 4");
        for (int below : new int[] {-1, Integer.MIN_VALUE}) {
            for (int other : new int[] {0, 4, 5, -1, Integer.MAX_VALUE}) {
                refused(ALL, "boxes, a below", -4, x -> x.boxes(below, other, other));
                refused(ALL, "boxes, b below", -4, x -> x.boxes(other, below, other));
                refused(ALL, "boxes, c below", -4, x -> x.boxes(other, other, below));
            }
        }
        for (int above : new int[] {5, 6, Integer.MAX_VALUE}) {
            for (int other : new int[] {0, 4, 5}) {
                refused(ALL, "boxes, a above", -6, x -> x.boxes(above, other, other));
                refused(ALL, "boxes, b above", -6, x -> x.boxes(other, above, other));
                refused(ALL, "boxes, c above", -6, x -> x.boxes(other, other, above));
            }
        }
    }

    private static void steps() {
        sentence("Promise 24: -1; -2; -6 10");
        for (int v : new int[] {0, 1, 2, -1}) {
            refused(WITHOUT, "step(0, " + v + ")", -1, x -> x.step(0, v));
            refused(ALL, "step, " + v, -1, NONE_SUCH, (x, door) -> x.step(door, v));
            refused(ALL, "step, the first beyond, " + v, -1, x -> x.step(x.count(2), v));
        }
        refused(WITH, "step(0, v)", -2, new int[] {-1, 2, Integer.MIN_VALUE, Integer.MAX_VALUE}, (x, v) -> x.step(0, v));
        for (int door = 0; door < 2; door++) {
            int which = door;
            refused(FULL, "step of " + door, -6, new int[] {0, 1}, (x, v) -> x.step(which, v));
        }
    }

    private static void on() {
        sentence("Promise 28: -3 there is none");
        refused(new Story[] {RefusalsTest::fresh, RefusalsTest::full, RefusalsTest::ofOne}, "on()", -3, NeverCross::on);
    }

    private static void numbersOfRefusals() {
        sentence("11 .. 16 REFUSALS -1 .. -6");
        NeverCross x = told("ax/..");
        for (int n = 1; n <= 40; n++) {
            x.who(-1);
            due("-1", x.count(11), n);
        }
        for (int n = 1; n <= 30; n++) {
            x.law(5);
            due("-2", x.count(12), n);
        }
        for (int n = 1; n <= 20; n++) {
            x.on();
            due("-3", x.count(13), n);
        }
        for (int n = 1; n <= 10; n++) {
            x.letter(-1);
            due("-4", x.count(14), n);
            x.letter(256);
            due("-6", x.count(16), n);
        }
        due("-5 there is none", x.count(15), 0);
        due("-1 still", x.count(11), 40);
        tell(x, "ab/xy");
        due("a SLOPE more, -2 still", x.count(12), 30);
        x.image();
        x.on();
        x.clear();
        due("on() from an image, -3 still", x.count(13), 20);
    }
}
