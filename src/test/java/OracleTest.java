import java.util.Random;

/** Runs of calls drawn from fixed seeds: the class and the oracle have to give the same answers. */
public final class OracleTest {
    private static final int[] FAR = {Integer.MIN_VALUE, Integer.MAX_VALUE, -100, 1000, 31, 32, 33, 64, 255, 256};
    private static final int[] ORDERS = {0, 1, 10, 210, 120, 201, 21, 102, 12, 2, 11, 20, 110, 100, 22, 1210, 3, -1, -10};

    private final Random random;
    private final Check check;
    private final String run;
    private final NeverCross x = new NeverCross();
    private final Oracle o = new Oracle();

    private OracleTest(long seed, Check check) {
        this.random = new Random(seed);
        this.check = check;
        this.run = "seed " + seed + ": ";
    }

    public static void main(String[] args) {
        Check check = new Check();
        int runs = args.length > 0 ? Integer.parseInt(args[0]) : 1500;
        for (long seed = 1; seed <= runs && check.allRight(); seed++) {
            new OracleTest(seed, check).play();
        }
        check.end("OracleTest");
    }

    private int near(int greatest) {
        int kind = random.nextInt(40);
        if (kind == 0) {
            return FAR[random.nextInt(FAR.length)];
        }
        return kind == 1 ? -1 : kind == 2 ? greatest + 1 : random.nextInt(greatest + 1);
    }

    private int cell() {
        return near(Math.max(0, x.count(0) * x.count(1) - 1));
    }

    private int door() {
        return near(Math.max(0, x.count(2) - 1));
    }

    private void due(String call, int got, int want) {
        check.due(run + call, got, want);
    }

    private void play() {
        if (random.nextInt(4) > 0) {
            tell(slopeText());
        }
        for (int i = 0; i < 300 && check.allRight(); i++) {
            if (random.nextInt(60) == 0) {
                tell(slopeText());
            } else {
                callOne();
            }
        }
        for (int what = -2; what < 20; what++) {
            due("count(" + what + ")", x.count(what), o.count(what));
        }
    }

    private void tell(String text) {
        for (char c : text.toCharArray()) {
            due("letter(" + (int) c + ")", x.letter(c), o.letter(c));
        }
        due("slope() of " + text, x.slope(), o.slope());
    }

    private String slopeText() {
        int rows = 2 + random.nextInt(5);
        int columns = 2 + random.nextInt(4);
        int posts = Math.min(1 + random.nextInt(3), rows * columns / 2);
        char[] cells = new char[rows * columns];
        int stones = random.nextInt(5);
        for (int i = 0; i < cells.length; i++) {
            int kind = random.nextInt(20);
            cells[i] = kind < stones ? '#' : kind < 12 ? '.' : (char) ('1' + random.nextInt(9));
        }
        boolean ordered = random.nextInt(3) > 0;
        for (int n = 0; n < posts; n++) {
            place(cells, (char) ('a' + n), ordered, false);
            place(cells, (char) ('x' + n), ordered, true);
        }
        StringBuilder text = new StringBuilder();
        for (int i = 0; i < cells.length; i++) {
            text.append(i > 0 && i % columns == 0 ? "/" : "").append(cells[i]);
        }
        return random.nextInt(5) == 0 ? spoilt(text) : text.toString();
    }

    private void place(char[] cells, char letter, boolean ordered, boolean late) {
        for (int tries = 0; tries < 200; tries++) {
            int at = random.nextInt(cells.length);
            boolean half = at >= cells.length / 2;
            if (!Character.isLetter(cells[at]) && (!ordered || half == late || tries > 100)) {
                cells[at] = letter;
                return;
            }
        }
    }

    private String spoilt(StringBuilder text) {
        String letters = "abcxyz/#.0q9A:" + (char) 0 + (char) 255;
        for (int n = random.nextInt(3); n >= 0 && text.length() > 0; n--) {
            int at = random.nextInt(text.length());
            char letter = letters.charAt(random.nextInt(letters.length()));
            switch (random.nextInt(4)) {
                case 0 -> text.deleteCharAt(at);
                case 1 -> text.insert(at, letter);
                case 2 -> text.setCharAt(at, letter);
                default -> text.setLength(at);
            }
        }
        return text.toString();
    }

    private void callOne() {
        switch (random.nextInt(30)) {
            case 0 -> {
                int c = random.nextInt(10) == 0 ? near(255) : "ab./xy".charAt(random.nextInt(6));
                due("letter(" + c + ")", x.letter(c), o.letter(c));
            }
            case 1 -> {
                int v = near(4);
                due("law(" + v + ")", x.law(v), o.law(v));
            }
            case 2 -> due("law(3)", x.law(3), o.law(3));
            case 3 -> {
                int order = ORDERS[random.nextInt(ORDERS.length)];
                due("set(" + order + ")", x.set(order), o.set(order));
            }
            case 4 -> {
                int order = ORDERS[random.nextInt(ORDERS.length)];
                due("by(" + order + ")", x.by(order), o.by(order));
            }
            case 5 -> {
                int door = door();
                int well = door();
                due("alone(" + door + ", " + well + ")", x.alone(door, well), o.alone(door, well));
            }
            case 6 -> {
                int cell = cell();
                int what = near(2);
                due("cell(" + cell + ", " + what + ")", x.cell(cell, what), o.cell(cell, what));
            }
            case 7, 8 -> {
                int cell = cell();
                int part = near(1);
                due("used(" + cell + ", " + part + ")", x.used(cell, part), o.used(cell, part));
            }
            case 9, 10 -> callRank();
            case 11 -> callDrawn();
            case 12 -> {
                int cell = cell();
                due("seen(" + cell + ")", x.seen(cell), o.seen(cell));
            }
            case 13 -> {
                int cell = cell();
                due("who(" + cell + ")", x.who(cell), o.who(cell));
            }
            case 14 -> {
                int cell = cell();
                due("lost(" + cell + ")", x.lost(cell), o.lost(cell));
            }
            case 15 -> callBoxes();
            case 16, 17 -> {
                int door = door();
                int v = near(1);
                due("step(" + door + ", " + v + ")", x.step(door, v), o.step(door, v));
            }
            case 18 -> tellWays();
            default -> callPlain();
        }
    }

    private void callPlain() {
        switch (random.nextInt(16)) {
            case 0 -> due("all()", x.all(), o.all());
            case 1 -> due("signed()", x.signed(), o.signed());
            case 2 -> due("holds()", x.holds(), o.holds());
            case 3 -> due("cheap()", x.cheap(), o.cheap());
            case 4 -> due("most()", x.most(), o.most());
            case 5 -> due("shuts()", x.shuts(), o.shuts());
            case 6, 7 -> due("fits()", x.fits(), o.fits());
            case 8 -> due("few()", x.few(), o.few());
            case 9, 10, 11 -> due("judge()", x.judge(), o.judge());
            case 12 -> due("clear()", x.clear(), o.clear());
            case 13 -> due("image()", x.image(), o.image());
            case 14 -> due("on()", x.on(), o.on());
            default -> {
                int what = near(16);
                due("count(" + what + ")", x.count(what), o.count(what));
            }
        }
    }

    private void callRank() {
        int k = random.nextInt(3) == 0 ? near(50) : near(5);
        int door = door();
        for (int step = near(3); step < 10; step += 1 + random.nextInt(3)) {
            due("rank(" + k + ", " + door + ", " + step + ")", x.rank(k, door, step), o.rank(k, door, step));
            if (step < 0) {
                return;
            }
        }
    }

    private void callDrawn() {
        int z = random.nextInt();
        int door = door();
        int step = near(8);
        due("drawn(" + z + ", " + door + ", " + step + ")", x.drawn(z, door, step), o.drawn(z, door, step));
    }

    private void callBoxes() {
        int a = near(4);
        int b = near(3);
        int c = near(3);
        due("boxes(" + a + ", " + b + ", " + c + ")", x.boxes(a, b, c), o.boxes(a, b, c));
    }

    /** Ways that get to wells: a random one is judged at its first step, nearly always. */
    private void tellWays() {
        due("clear()", x.clear(), o.clear());
        for (int door = 0; door < x.count(2); door++) {
            tellWay(door, random.nextInt(x.count(2)));
        }
        due("judge()", x.judge(), o.judge());
    }

    private void tellWay(int door, int well) {
        int columns = x.count(1);
        int from = find(2, door);
        int to = find(3, well);
        int downs = to / columns - from / columns;
        int rights = to % columns - from % columns;
        while (downs > 0 || rights > 0) {
            int v = downs > 0 && (rights <= 0 || random.nextBoolean()) ? 0 : 1;
            downs -= v == 0 ? 1 : 0;
            rights -= v;
            due("step(" + door + ", " + v + ")", x.step(door, v), o.step(door, v));
        }
    }

    private int find(int kind, int number) {
        int cells = x.count(0) * x.count(1);
        for (int cell = 0; cell < cells; cell++) {
            if (x.cell(cell, 0) == kind && x.cell(cell, 2) == number) {
                return cell;
            }
        }
        return 0;
    }
}
