import com.sun.management.ThreadMXBean;
import java.lang.management.ManagementFactory;

/** All calls of a run live in one room: an object and its 512 calls have to stay small in it. */
public final class RoomTest {
    private static final int MOST_BYTES = 64 * 1024;
    private static final String[] DEAREST = {"c.a../...../b..../...y./...../.x.z.", "a.c../...../....z/b..../...../.y.x."};

    public static void main(String[] args) {
        Check check = new Check();
        ThreadMXBean bean = (ThreadMXBean) ManagementFactory.getThreadMXBean();
        run();
        long self = Thread.currentThread().getId();
        long before = bean.getThreadAllocatedBytes(self);
        int calls = run();
        long bytes = bean.getThreadAllocatedBytes(self) - before;
        System.out.println(calls + " calls took " + bytes + " bytes");
        check.yes("at most " + MOST_BYTES + " bytes", bytes <= MOST_BYTES);
        check.due("calls", calls, 512);
        check.end("RoomTest");
    }

    private static int run() {
        NeverCross x = new NeverCross();
        int calls = 0;
        for (int i = 0; i < 2; i++) {
            for (int at = 0; at < DEAREST[i].length(); at++) {
                x.letter(DEAREST[i].charAt(at));
                calls++;
            }
            x.slope();
            x.law(3);
            x.image();
            x.seen(12);
            calls += 4;
        }
        for (int turn = 0; calls < 512; turn++) {
            callOne(x, turn);
            calls++;
        }
        return calls;
    }

    private static int callOne(NeverCross x, int turn) {
        return switch (turn % 20) {
            case 0 -> x.all();
            case 1 -> x.signed();
            case 2 -> x.holds();
            case 3 -> x.by(210);
            case 4 -> x.cheap();
            case 5 -> x.used(turn % 30, turn & 1);
            case 6 -> x.rank(turn, 2, 0);
            case 7 -> x.drawn(turn, 1, 1);
            case 8 -> x.most();
            case 9 -> x.shuts();
            case 10 -> x.fits();
            case 11 -> x.who(turn % 30);
            case 12 -> x.lost(turn % 30);
            case 13 -> x.few();
            case 14 -> x.boxes(4, 4, 4);
            case 15 -> x.step(turn % 3, turn & 1);
            case 16 -> x.judge();
            case 17 -> x.on();
            case 18 -> x.set(12);
            default -> x.alone(0, 0);
        };
    }
}
