import java.util.Arrays;

/** Ways that don't cross, on a slope of cells; ../shared/DOC.md says what each call answers. */
public final class NeverCross {
    private static final int MOST_LETTERS = 48;
    private static final int MOST_ROWS = 6;
    private static final int MOST_COLUMNS = 5;
    private static final int MOST_CELLS = 30;
    private static final int MOST_DOORS = 3;
    private static final int MOST_SEEN = 4;
    private static final int MOST_STEPS = 10;
    private static final int MOST_BOXES = 4;
    /** Ways of one door that end in a well, none the beginning of another: no more than go to the far corner. */
    private static final int MOST_WAYS = 126;

    private static final int NOTHING = 0;
    private static final int STONE = 1;
    private static final int DOOR = 2;
    private static final int WELL = 3;

    private static final int DOWN = 0;
    private static final int RIGHT = 1;

    private static final int OWN = 0;
    private static final int LAWS = 5;

    private static final int NOBODY = -1;
    private static final int OTHER = -2;
    private static final int STATE = -3;
    private static final int BELOW = -4;
    private static final int ROOM = -6;
    private static final int NONE = -9;
    private static final int SIGNED_REFUSAL = 1000000000;

    private static final int WITHOUT_SIGN = 0x7fffffff;
    private static final int NO_STOP = 0x7fffffff;

    /** All orders of one, of two and of three wells, the own one first; door 0 has the lowest digit. */
    private static final int[] ORDERS = {0, 10, 1, 210, 120, 201, 21, 102, 12};
    /** Orders of n wells stand in ORDERS from place ORDER_STARTS[n] to ahead of ORDER_STARTS[n + 1]. */
    private static final int[] ORDER_STARTS = {0, 0, 1, 3, 9};
    private static final int[] TENS = {1, 10, 100};

    private final int[] letters = new int[MOST_LETTERS];
    private int lettersTold;
    private final int[] refusals = new int[7];
    private final Slope draft = new Slope();
    private final Held now = new Held();
    private final Held kept = new Held();
    private boolean imageTaken;
    private final Law[] laws = {new Own(), new Turned(), new Next(), new Any(), new Told()};
    private final Ways ways;
    private final Ways fewWays;
    private final Study study;
    private final Finder ranked;
    private final Finder fitting;
    private final Finder fewFound;
    private int slopesRead;
    /** The number of the slope of which ways and study are, or -1. */
    private int slopeStudied = -1;
    /** The number of the family that stands in ranked by the present law, or -1. */
    private int rankHeld = -1;

    public NeverCross() {
        ways = new Ways(now.slope);
        fewWays = new Ways(now.slope);
        study = new Study(now.slope, ways);
        ranked = new Finder(ways);
        fitting = new Finder(ways);
        fewFound = new Finder(fewWays);
    }

    public int letter(int c) {
        if (c < 0) {
            return refuse(BELOW);
        }
        if (c > 255 || lettersTold >= MOST_LETTERS) {
            return refuse(ROOM);
        }
        letters[lettersTold] = c;
        lettersTold++;
        return lettersTold;
    }

    public int slope() {
        int fault = draft.read(letters, lettersTold);
        lettersTold = 0;
        if (fault != 0) {
            return fault;
        }
        slopesRead++;
        now.begin(draft, slopesRead);
        rankHeld = -1;
        return now.slope.cells;
    }

    public int cell(int cell, int what) {
        if (!now.slope.hasCell(cell)) {
            return refuse(NOBODY);
        }
        switch (what) {
            case 0:
                return now.slope.kind[cell];
            case 1:
                return now.slope.cost[cell];
            case 2:
                return now.slope.number[cell];
            default:
                return refuse(OTHER);
        }
    }

    public int law(int v) {
        if (v < 0 || v >= LAWS) {
            return refuse(OTHER);
        }
        int was = now.law;
        now.law = v;
        rankHeld = -1;
        return was;
    }

    public int set(int order) {
        if (!hasSlope()) {
            return refuse(STATE);
        }
        if (placeOfOrder(order, now.slope.doors) < 0) {
            return refuse(NOBODY);
        }
        int was = now.told;
        now.told = order;
        rankHeld = -1;
        return was;
    }

    public int alone(int door, int well) {
        if (!now.slope.hasDoor(door) || !now.slope.hasDoor(well)) {
            return refuse(NOBODY);
        }
        return now.slope.waysAlone(door, well);
    }

    public int all() {
        if (!hasSlope()) {
            return refuse(STATE);
        }
        return familiesByLaw();
    }

    public int signed() {
        if (!hasSlope()) {
            return SIGNED_REFUSAL - refuse(STATE);
        }
        return strikeOut(0, 0);
    }

    public int holds() {
        if (!hasSlope()) {
            return refuse(STATE);
        }
        int doors = now.slope.doors;
        int notOwn = 0;
        for (int place = firstOrder(doors) + 1; place < endOfOrders(doors); place++) {
            notOwn |= 1 << place;
        }
        return studyNow().familiesBy(notOwn) == 0 ? 1 : 0;
    }

    public int by(int order) {
        if (!hasSlope()) {
            return refuse(STATE);
        }
        int place = placeOfOrder(order, now.slope.doors);
        if (place < 0) {
            return refuse(NOBODY);
        }
        return studyNow().familiesBy(1 << place);
    }

    public int cheap() {
        if (!hasSlope()) {
            return refuse(STATE);
        }
        return studyNow().leastCostBy(ordersByLaw());
    }

    public int used(int cell, int part) {
        if (!now.slope.hasCell(cell)) {
            return refuse(NOBODY);
        }
        if (part < 0 || part > 1) {
            return refuse(OTHER);
        }
        int there = familiesThrough(cell);
        int whole = there == 0 ? 1 : familiesByLaw();
        int divisor = greatestDivisor(whole, there);
        return (part == 0 ? there : whole) / divisor;
    }

    public int rank(int k, int door, int step) {
        if (!now.slope.hasDoor(door)) {
            return refuse(NOBODY);
        }
        if (k < 0 || step < 0) {
            return refuse(BELOW);
        }
        return stepOfRanked(k, familiesByLaw(), door, step);
    }

    public int drawn(int z, int door, int step) {
        if (!now.slope.hasDoor(door)) {
            return refuse(NOBODY);
        }
        if (step < 0) {
            return refuse(BELOW);
        }
        int families = familiesByLaw();
        if (families < 1) {
            return NONE;
        }
        return stepOfRanked(drawBelow(families, z), families, door, step);
    }

    public int most() {
        return studyNow().most;
    }

    public int shuts() {
        return studyNow().shut;
    }

    public int seen(int cell) {
        if (!now.slope.hasCell(cell)) {
            return refuse(NOBODY);
        }
        if (now.seenCells >= MOST_SEEN) {
            return refuse(ROOM);
        }
        now.seen[now.seenCells] = cell;
        now.seenCells++;
        return now.seenCells;
    }

    public int fits() {
        if (!hasSlope()) {
            return refuse(STATE);
        }
        int through = now.seenBits();
        if (through == 0) {
            return familiesByLaw();
        }
        studyNow();
        return fitting.seek(lawNow(), now.told, through, NO_STOP);
    }

    public int who(int cell) {
        if (!now.slope.hasCell(cell)) {
            return refuse(NOBODY);
        }
        return studyNow().doorsThrough(cell, ordersByLaw());
    }

    public int lost(int cell) {
        if (!now.slope.hasCell(cell)) {
            return refuse(NOBODY);
        }
        if (now.slope.kind[cell] != NOTHING) {
            return refuse(STATE);
        }
        return familiesThrough(cell);
    }

    public int few() {
        for (int doors = now.slope.doors; doors > 0; doors--) {
            fewWays.fill(doors);
            if (fewFound.seek(laws[OWN], 0, 0, 1) > 0) {
                return doors;
            }
        }
        return 0;
    }

    public int boxes(int a, int b, int c) {
        if (a < 0 || b < 0 || c < 0) {
            return refuse(BELOW);
        }
        if (a > MOST_BOXES || b > MOST_BOXES || c > MOST_BOXES) {
            return refuse(ROOM);
        }
        return pilesInCorner(a, b, c);
    }

    public int step(int door, int v) {
        if (!now.slope.hasDoor(door)) {
            return refuse(NOBODY);
        }
        if (v != DOWN && v != RIGHT) {
            return refuse(OTHER);
        }
        int length = now.lengths[door];
        if (length >= MOST_STEPS) {
            return refuse(ROOM);
        }
        now.steps[door][length] = v;
        now.lengths[door] = length + 1;
        return length + 1;
    }

    public int judge() {
        if (!hasSlope()) {
            return refuse(STATE);
        }
        int off = now.firstStepOff();
        if (off >= 0) {
            return 1000 + off;
        }
        int astray = firstAstray();
        if (astray >= 0) {
            return 100 + astray;
        }
        return now.leastShared();
    }

    public int clear() {
        return now.forgetTold();
    }

    public int image() {
        kept.copyFrom(now);
        imageTaken = true;
        return now.slope.cells;
    }

    public int on() {
        if (!imageTaken) {
            return refuse(STATE);
        }
        now.copyFrom(kept);
        rankHeld = -1;
        return now.slope.cells;
    }

    public int count(int what) {
        switch (what) {
            case 0:
                return now.slope.rows;
            case 1:
                return now.slope.columns;
            case 2:
                return now.slope.doors;
            case 3:
                return now.slope.stones;
            case 4:
                return now.seenCells;
            case 5:
                return lettersTold;
            case 6:
                return now.law;
            case 7:
                return now.told;
            default:
                return what >= 11 && what <= 16 ? refusals[what - 10] : NONE;
        }
    }

    private int refuse(int refusal) {
        int place = -refusal;
        if (place > 0 && place < refusals.length) {
            refusals[place]++;
        }
        return refusal;
    }

    private boolean hasSlope() {
        return now.slope.cells > 0;
    }

    /** The study is dear and only some calls need it: it is made when the first of them asks, once for a slope. */
    private Study studyNow() {
        if (slopeStudied != now.slopeNumber) {
            ways.fill(now.slope.doors);
            study.make();
            slopeStudied = now.slopeNumber;
        }
        return study;
    }

    private Law lawNow() {
        return now.law >= 0 && now.law < laws.length ? laws[now.law] : laws[OWN];
    }

    /** Bits of the places in ORDERS that the law takes. */
    private int ordersByLaw() {
        int doors = now.slope.doors;
        Law law = lawNow();
        int orders = 0;
        for (int place = firstOrder(doors); place < endOfOrders(doors); place++) {
            if (law.takes(ORDERS[place], doors, now.told)) {
                orders |= 1 << place;
            }
        }
        return orders;
    }

    private int familiesByLaw() {
        return studyNow().familiesBy(ordersByLaw());
    }

    private int familiesThrough(int cell) {
        return studyNow().familiesThrough(cell, ordersByLaw());
    }

    /** The determinant by its rows: the row of a door is struck out with the column of the well that it takes. */
    private int strikeOut(int door, int taken) {
        int doors = now.slope.doors;
        if (door >= doors) {
            return 1;
        }
        int sum = 0;
        for (int well = 0; well < doors; well++) {
            if ((taken >> well & 1) == 0) {
                int sign = (Integer.bitCount(taken >> (well + 1)) & 1) == 0 ? 1 : -1;
                sum += sign * now.slope.waysAlone(door, well) * strikeOut(door + 1, taken | 1 << well);
            }
        }
        return sum;
    }

    private int stepOfRanked(int k, int families, int door, int step) {
        if (k >= families) {
            return NONE;
        }
        if (k != rankHeld) {
            ranked.seek(lawNow(), now.told, 0, k + 1);
            rankHeld = k;
        }
        return now.slope.stepOfWay(ranked.picked[door], door, step);
    }

    private int firstAstray() {
        int doors = now.slope.doors;
        for (int door = 0; door < doors; door++) {
            int end = now.endOfTold(door);
            if (!now.slope.hasCell(end) || now.slope.kind[end] != WELL) {
                return door;
            }
            int wells = lawNow().wellsFor(door, doors, now.told);
            if ((wells >> now.slope.number[end] & 1) == 0) {
                return door;
            }
        }
        return -1;
    }

    private static int drawBelow(int m, int z) {
        int drawn = z * 1664525 + 1013904223;
        return m < 1 ? 0 : (drawn & WITHOUT_SIGN) / 256 % m;
    }

    /** 1 at least, so that it can divide. */
    private static int greatestDivisor(int a, int b) {
        int greater = a;
        int lesser = b;
        for (int round = 0; round < 64 && lesser > 0; round++) {
            int rest = greater % lesser;
            greater = lesser;
            lesser = rest;
        }
        return Math.max(greater, 1);
    }

    /** MacMahon's product: over all a by b places, (i + j + c - 1) by (i + j - 1). */
    private static int pilesInCorner(int a, int b, int c) {
        long above = 1;
        long below = 1;
        for (int i = 1; i <= a; i++) {
            for (int j = 1; j <= b; j++) {
                above *= i + j + c - 1;
                below *= i + j - 1;
            }
        }
        return below < 1 ? 0 : (int) (above / below);
    }

    private static int firstOrder(int doors) {
        return doors < 1 || doors > MOST_DOORS ? 0 : ORDER_STARTS[doors];
    }

    private static int endOfOrders(int doors) {
        return doors < 1 || doors > MOST_DOORS ? 0 : ORDER_STARTS[doors + 1];
    }

    private static int placeOfOrder(int order, int doors) {
        for (int place = firstOrder(doors); place < endOfOrders(doors); place++) {
            if (ORDERS[place] == order) {
                return place;
            }
        }
        return -1;
    }

    private static int ownOrder(int doors) {
        return ORDERS[firstOrder(doors)];
    }

    /** The well to which a door goes by an order. */
    private static int wellInOrder(int order, int door) {
        return door < 0 || door >= TENS.length ? 0 : order / TENS[door] % 10;
    }

    private static boolean isIn(int cells, int cell) {
        return cell >= 0 && cell < MOST_CELLS && (cells >> cell & 1) != 0;
    }

    /** The cells as they are told, and the ways of one alone on them. */
    private static final class Slope {
        int rows;
        int columns;
        int cells;
        int stones;
        int doors;
        final int[] kind = new int[MOST_CELLS];
        final int[] cost = new int[MOST_CELLS];
        final int[] number = new int[MOST_CELLS];
        private final int[] doorAt = new int[MOST_DOORS];
        private final int[] wellAt = new int[MOST_DOORS];
        private final int[] reached = new int[MOST_CELLS];
        /** Cells of the row that is being read. */
        private int inRow;

        void copyFrom(Slope other) {
            rows = other.rows;
            columns = other.columns;
            cells = other.cells;
            stones = other.stones;
            doors = other.doors;
            System.arraycopy(other.kind, 0, kind, 0, MOST_CELLS);
            System.arraycopy(other.cost, 0, cost, 0, MOST_CELLS);
            System.arraycopy(other.number, 0, number, 0, MOST_CELLS);
            System.arraycopy(other.doorAt, 0, doorAt, 0, MOST_DOORS);
            System.arraycopy(other.wellAt, 0, wellAt, 0, MOST_DOORS);
        }

        /** Answers 0, or the FAULT: then what stands here is of no use. */
        int read(int[] told, int length) {
            wipe();
            int end = Math.min(length, told.length);
            for (int place = 0; place < end; place++) {
                boolean goesOn = told[place] == '/' ? endRow() : addCell(told[place]);
                if (!goesOn) {
                    return -1000 - place;
                }
            }
            if (rows < 1 || inRow != columns) {
                return -1000 - end;
            }
            rows++;
            return pairDoors() ? 0 : -2000;
        }

        private void wipe() {
            rows = 0;
            columns = 0;
            cells = 0;
            stones = 0;
            doors = 0;
            inRow = 0;
            Arrays.fill(doorAt, -1);
            Arrays.fill(wellAt, -1);
        }

        private boolean endRow() {
            boolean whole = columns == 0 ? inRow >= 2 : inRow == columns;
            if (!whole || rows + 1 >= MOST_ROWS) {
                return false;
            }
            columns = inRow;
            rows++;
            inRow = 0;
            return true;
        }

        private boolean addCell(int letter) {
            int widest = columns == 0 ? MOST_COLUMNS : columns;
            if (inRow >= widest || cells >= MOST_CELLS) {
                return false;
            }
            if (letter == '.') {
                return put(NOTHING, 0, NONE);
            }
            if (letter >= '1' && letter <= '9') {
                return put(NOTHING, letter - '0', NONE);
            }
            if (letter == '#') {
                stones++;
                return put(STONE, 0, NONE);
            }
            if (letter >= 'a' && letter <= 'c') {
                return putOnce(DOOR, letter - 'a', doorAt);
            }
            if (letter >= 'x' && letter <= 'z') {
                return putOnce(WELL, letter - 'x', wellAt);
            }
            return false;
        }

        private boolean putOnce(int what, int which, int[] at) {
            if (which < 0 || which >= at.length || at[which] >= 0) {
                return false;
            }
            at[which] = cells;
            return put(what, 0, which);
        }

        private boolean put(int what, int price, int which) {
            kind[cells] = what;
            cost[cells] = price;
            number[cells] = which;
            cells++;
            inRow++;
            return true;
        }

        private boolean pairDoors() {
            for (int n = 0; n < MOST_DOORS; n++) {
                boolean isDoor = doorAt[n] >= 0;
                boolean isWell = wellAt[n] >= 0;
                if (isDoor != isWell || isDoor && n != doors) {
                    return false;
                }
                if (isDoor) {
                    doors++;
                }
            }
            return doors > 0;
        }

        boolean hasCell(int cell) {
            return cell >= 0 && cell < cells;
        }

        /** There are as many wells: this tells of them, too. */
        boolean hasDoor(int door) {
            return door >= 0 && door < doors;
        }

        int cellOfDoor(int door) {
            return hasDoor(door) ? doorAt[door] : -1;
        }

        int cellOfWell(int well) {
            return hasDoor(well) ? wellAt[well] : -1;
        }

        /** The cell a step on, or -1 if the step leaves the slope or goes into a stone. */
        int onward(int cell, int step) {
            if (!hasCell(cell) || columns < 1) {
                return -1;
            }
            if (step == RIGHT && cell % columns == columns - 1) {
                return -1;
            }
            int to = step == RIGHT ? cell + 1 : cell + columns;
            return hasCell(to) && kind[to] != STONE ? to : -1;
        }

        int waysAlone(int door, int well) {
            int from = cellOfDoor(door);
            int to = cellOfWell(well);
            if (!hasCell(from) || !hasCell(to)) {
                return 0;
            }
            Arrays.fill(reached, 0);
            reached[from] = 1;
            for (int cell = from; cell < to; cell++) {
                for (int step = DOWN; step <= RIGHT; step++) {
                    int next = onward(cell, step);
                    if (next >= 0) {
                        reached[next] += reached[cell];
                    }
                }
            }
            return reached[to];
        }

        /** A way is told by its cells: from each of them it goes down if the one below is among them. */
        int stepOfWay(int wayCells, int door, int step) {
            if (step >= Integer.bitCount(wayCells) - 1) {
                return NONE;
            }
            int cell = cellOfDoor(door);
            for (int ahead = 0; ahead < step; ahead++) {
                cell = isIn(wayCells, cell + columns) ? cell + columns : cell + 1;
            }
            return isIn(wayCells, cell + columns) ? DOWN : RIGHT;
        }
    }

    /** All that an image keeps. */
    private static final class Held {
        final Slope slope = new Slope();
        /** How many slopes had been read with it; 0 without one. */
        int slopeNumber;
        int law = OWN;
        int told;
        int seenCells;
        final int[] seen = new int[MOST_SEEN];
        final int[] lengths = new int[MOST_DOORS];
        final int[][] steps = new int[MOST_DOORS][MOST_STEPS];

        void copyFrom(Held other) {
            slope.copyFrom(other.slope);
            slopeNumber = other.slopeNumber;
            law = other.law;
            told = other.told;
            seenCells = other.seenCells;
            System.arraycopy(other.seen, 0, seen, 0, MOST_SEEN);
            System.arraycopy(other.lengths, 0, lengths, 0, MOST_DOORS);
            for (int door = 0; door < MOST_DOORS; door++) {
                System.arraycopy(other.steps[door], 0, steps[door], 0, MOST_STEPS);
            }
        }

        void begin(Slope fresh, int number) {
            slope.copyFrom(fresh);
            slopeNumber = number;
            told = ownOrder(slope.doors);
            forgetTold();
        }

        int forgetTold() {
            int stepsTold = 0;
            for (int door = 0; door < MOST_DOORS; door++) {
                stepsTold += lengths[door];
                lengths[door] = 0;
            }
            seenCells = 0;
            return stepsTold;
        }

        int seenBits() {
            int bits = 0;
            for (int i = 0; i < seenCells; i++) {
                bits |= 1 << seen[i];
            }
            return bits;
        }

        /** 20 times the door and the place of the first step that leaves the slope or goes into a stone, or -1. */
        int firstStepOff() {
            for (int door = 0; door < slope.doors; door++) {
                int cell = slope.cellOfDoor(door);
                for (int place = 0; place < lengths[door]; place++) {
                    cell = slope.onward(cell, steps[door][place]);
                    if (cell < 0) {
                        return 20 * door + place;
                    }
                }
            }
            return -1;
        }

        int endOfTold(int door) {
            int cell = slope.cellOfDoor(door);
            for (int place = 0; place < lengths[door]; place++) {
                cell = slope.onward(cell, steps[door][place]);
            }
            return cell;
        }

        private int cellsOfTold(int door) {
            int cell = slope.cellOfDoor(door);
            int bits = 1 << cell;
            for (int place = 0; place < lengths[door] && cell >= 0; place++) {
                cell = slope.onward(cell, steps[door][place]);
                if (cell >= 0) {
                    bits |= 1 << cell;
                }
            }
            return bits;
        }

        int leastShared() {
            int once = 0;
            int shared = 0;
            for (int door = 0; door < slope.doors; door++) {
                int bits = cellsOfTold(door);
                shared |= once & bits;
                once |= bits;
            }
            for (int cell = 0; cell < slope.cells; cell++) {
                if (isIn(shared, cell)) {
                    return cell;
                }
            }
            return NONE;
        }
    }

    /** To which wells the way of a door may go. */
    private abstract static class Law {
        /** Bits of wells. */
        abstract int wellsFor(int door, int doors, int told);

        boolean takes(int order, int doors, int told) {
            for (int door = 0; door < doors; door++) {
                if ((wellsFor(door, doors, told) >> wellInOrder(order, door) & 1) == 0) {
                    return false;
                }
            }
            return true;
        }
    }

    private static class Own extends Law {
        int wellOf(int door, int doors, int told) {
            return door;
        }

        int wellsFor(int door, int doors, int told) {
            return 1 << wellOf(door, doors, told);
        }
    }

    private static final class Turned extends Own {
        int wellOf(int door, int doors, int told) {
            return doors - 1 - door;
        }
    }

    private static final class Next extends Own {
        int wellOf(int door, int doors, int told) {
            return door + 1 < doors ? door + 1 : 0;
        }
    }

    private static final class Told extends Own {
        int wellOf(int door, int doors, int told) {
            return wellInOrder(told, door);
        }
    }

    private static final class Any extends Law {
        int wellsFor(int door, int doors, int told) {
            return (1 << doors) - 1;
        }
    }

    /** The ways of each of the first doors to each of the first wells, through none of the others, in order. */
    private static final class Ways {
        private final Slope slope;
        int doors;
        final int[] sizes = new int[MOST_DOORS];
        /** Bits of the cells of each way. */
        final int[][] cells = new int[MOST_DOORS][MOST_WAYS];
        final int[][] wells = new int[MOST_DOORS][MOST_WAYS];

        Ways(Slope slope) {
            this.slope = slope;
        }

        void fill(int firstDoors) {
            doors = Math.min(firstDoors, slope.doors);
            for (int door = 0; door < doors; door++) {
                sizes[door] = 0;
                goOn(door, slope.cellOfDoor(door), 0, 0);
            }
        }

        private void goOn(int door, int cell, int before, int depth) {
            if (cell < 0 || depth > MOST_STEPS) {
                return;
            }
            int way = before | 1 << cell;
            for (int step = DOWN; step <= RIGHT; step++) {
                int to = slope.onward(cell, step);
                if (to >= 0) {
                    boolean plain = slope.number[to] < 0 || slope.number[to] >= doors;
                    if (plain) {
                        goOn(door, to, way, depth + 1);
                    } else if (slope.kind[to] == WELL) {
                        note(door, way | 1 << to, slope.number[to]);
                    }
                }
            }
        }

        private void note(int door, int way, int well) {
            int size = sizes[door];
            if (size < MOST_WAYS) {
                cells[door][size] = way;
                wells[door][size] = well;
                sizes[door] = size + 1;
            }
        }
    }

    /** What one look at all sets of ways that don't cross tells: families by their orders, and MOST. */
    private static final class Study {
        int most;
        /** Bits of the cells that every set of MOST ways goes through, but doors and wells. */
        int shut;
        private final Slope slope;
        private final Ways ways;
        private final int[] picked = new int[MOST_DOORS];
        /** By places in ORDERS: */
        private final int[] families = new int[ORDERS.length];
        private final int[] leastCost = new int[ORDERS.length];
        private final int[][] through = new int[ORDERS.length][MOST_CELLS];
        private final int[][] who = new int[ORDERS.length][MOST_CELLS];

        Study(Slope slope, Ways ways) {
            this.slope = slope;
            this.ways = ways;
        }

        void make() {
            most = 0;
            shut = 0;
            for (int place = 0; place < ORDERS.length; place++) {
                families[place] = 0;
                leastCost[place] = 0;
                Arrays.fill(through[place], 0);
                Arrays.fill(who[place], 0);
            }
            choose(0, 0, 0, 0);
            for (int door = 0; door < slope.doors; door++) {
                shut &= ~(1 << slope.cellOfDoor(door)) & ~(1 << slope.cellOfWell(door));
            }
        }

        /** Each door takes each of its ways that is still free, or none. */
        private void choose(int door, int taken, int chosen, int order) {
            if (door >= ways.doors) {
                meet(taken, chosen, order);
                return;
            }
            choose(door + 1, taken, chosen, order);
            for (int i = 0; i < ways.sizes[door]; i++) {
                int way = ways.cells[door][i];
                if ((way & taken) == 0) {
                    picked[door] = way;
                    choose(door + 1, taken | way, chosen + 1, order + TENS[door] * ways.wells[door][i]);
                }
            }
        }

        private void meet(int taken, int chosen, int order) {
            if (chosen > most) {
                most = chosen;
                shut = taken;
            } else if (chosen == most) {
                shut &= taken;
            }
            if (chosen > 0 && chosen == ways.doors) {
                note(taken, placeOfOrder(order, chosen));
            }
        }

        private void note(int taken, int place) {
            if (place < 0) {
                return;
            }
            int cost = 0;
            for (int cell = 0; cell < slope.cells; cell++) {
                if (isIn(taken, cell)) {
                    cost += slope.cost[cell];
                    through[place][cell]++;
                    who[place][cell] |= doorsPickedThrough(cell);
                }
            }
            if (families[place] == 0 || cost < leastCost[place]) {
                leastCost[place] = cost;
            }
            families[place]++;
        }

        private int doorsPickedThrough(int cell) {
            int bits = 0;
            for (int door = 0; door < ways.doors; door++) {
                bits |= (picked[door] >> cell & 1) << door;
            }
            return bits;
        }

        int familiesBy(int orders) {
            int sum = 0;
            for (int place = 0; place < ORDERS.length; place++) {
                if ((orders >> place & 1) != 0) {
                    sum += families[place];
                }
            }
            return sum;
        }

        int leastCostBy(int orders) {
            int least = NONE;
            for (int place = 0; place < ORDERS.length; place++) {
                boolean some = (orders >> place & 1) != 0 && families[place] > 0;
                if (some && (least == NONE || leastCost[place] < least)) {
                    least = leastCost[place];
                }
            }
            return least;
        }

        int familiesThrough(int cell, int orders) {
            int sum = 0;
            for (int place = 0; place < ORDERS.length && slope.hasCell(cell); place++) {
                if ((orders >> place & 1) != 0) {
                    sum += through[place][cell];
                }
            }
            return sum;
        }

        int doorsThrough(int cell, int orders) {
            int bits = 0;
            for (int place = 0; place < ORDERS.length && slope.hasCell(cell); place++) {
                if ((orders >> place & 1) != 0) {
                    bits |= who[place][cell];
                }
            }
            return bits;
        }
    }

    /** Goes through the families by a law in their order. */
    private static final class Finder {
        /** Bits of the cells of each door's way in the family at which it stopped. */
        final int[] picked = new int[MOST_DOORS];
        private final Ways ways;
        private final int[] open = new int[MOST_DOORS];
        private int needed;
        private int stop;
        private int met;

        Finder(Ways ways) {
            this.ways = ways;
        }

        /** How many families go through all needed cells; it stops at the one with which there are most of them. */
        int seek(Law law, int told, int neededCells, int most) {
            for (int door = 0; door < ways.doors; door++) {
                open[door] = law.wellsFor(door, ways.doors, told);
            }
            needed = neededCells;
            stop = most;
            met = 0;
            pick(0, 0);
            return met;
        }

        private void pick(int door, int taken) {
            if (door >= ways.doors) {
                if ((taken & needed) == needed) {
                    met++;
                }
                return;
            }
            for (int i = 0; i < ways.sizes[door] && met < stop; i++) {
                int way = ways.cells[door][i];
                if ((way & taken) == 0 && (open[door] >> ways.wells[door][i] & 1) != 0) {
                    picked[door] = way;
                    pick(door + 1, taken | way);
                }
            }
        }
    }
}
