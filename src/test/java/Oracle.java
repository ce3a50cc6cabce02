import java.util.ArrayList;
import java.util.Arrays;
import java.util.Collections;
import java.util.Comparator;
import java.util.HashSet;
import java.util.List;
import java.util.Set;

/**
 * The document told a second time, slowly: every answer is found by laying out all ways as lists of cells and
 * trying all of them. It shares no code and no shortcut with the class.
 */
final class Oracle {
    /** A way: its cells, its steps as text ("d", "r"), the well where it ends. */
    record Way(List<Integer> cells, String steps, int well) { }

    /** The map alone, so that it can be changed and asked again. */
    static final class Map {
        final int rows;
        final int columns;
        final char[] at;

        Map(int rows, int columns, char[] at) {
            this.rows = rows;
            this.columns = columns;
            this.at = at;
        }

        Map with(int cell, char letter) {
            char[] other = at.clone();
            other[cell] = letter;
            return new Map(rows, columns, other);
        }

        int find(char letter) {
            for (int i = 0; i < at.length; i++) {
                if (at[i] == letter) {
                    return i;
                }
            }
            return -1;
        }

        int doors() {
            int n = 0;
            for (char c : at) {
                n += c >= 'a' && c <= 'c' ? 1 : 0;
            }
            return n;
        }

        boolean isPost(int cell) {
            return Character.isLetter(at[cell]);
        }

        void lay(int row, int column, int well, List<Integer> cells, String steps, List<Way> found) {
            if (row >= rows || column >= columns || at[row * columns + column] == '#') {
                return;
            }
            cells.add(row * columns + column);
            if (at[row * columns + column] == (char) ('x' + well)) {
                found.add(new Way(new ArrayList<>(cells), steps, well));
            } else {
                lay(row + 1, column, well, cells, steps + "d", found);
                lay(row, column + 1, well, cells, steps + "r", found);
            }
            cells.remove(cells.size() - 1);
        }

        List<Way> ways(int door, int well) {
            List<Way> found = new ArrayList<>();
            int from = find((char) ('a' + door));
            lay(from / columns, from % columns, well, new ArrayList<>(), "", found);
            return found;
        }

        /** All families, whoever goes to which well, in order. */
        List<List<Way>> families() {
            List<List<Way>> found = new ArrayList<>();
            join(0, new ArrayList<>(), found);
            found.sort(Comparator.comparing((List<Way> f) -> f.get(0).steps)
                .thenComparing(f -> f.size() > 1 ? f.get(1).steps : "")
                .thenComparing(f -> f.size() > 2 ? f.get(2).steps : ""));
            return found;
        }

        private void join(int door, List<Way> chosen, List<List<Way>> found) {
            if (door == doors()) {
                found.add(new ArrayList<>(chosen));
                return;
            }
            for (int well = 0; well < doors(); well++) {
                for (Way way : ways(door, well)) {
                    boolean apart = true;
                    for (Way other : chosen) {
                        apart &= Collections.disjoint(other.cells, way.cells);
                    }
                    if (apart) {
                        chosen.add(way);
                        join(door + 1, chosen, found);
                        chosen.remove(chosen.size() - 1);
                    }
                }
            }
        }

        int most() {
            return most(0, new HashSet<>());
        }

        private int most(int door, Set<Integer> taken) {
            if (door == doors()) {
                return 0;
            }
            int best = most(door + 1, taken);
            for (int well = 0; well < doors(); well++) {
                for (Way way : ways(door, well)) {
                    boolean free = Collections.disjoint(taken, way.cells);
                    for (int cell : way.cells.subList(1, way.cells.size() - 1)) {
                        free &= !isPost(cell);
                    }
                    if (free) {
                        Set<Integer> more = new HashSet<>(taken);
                        more.addAll(way.cells);
                        best = Math.max(best, 1 + most(door + 1, more));
                    }
                }
            }
            return best;
        }
    }

    private final StringBuilder letters = new StringBuilder();
    private final int[] refusals = new int[7];
    private Map map;
    private int law;
    private int[] told = new int[0];
    private List<Integer> seen = new ArrayList<>();
    private List<List<Integer>> steps = fresh();
    private Object[] image;
    private List<List<Way>> families;
    private int mostNow = -1;
    private int shutsNow = -1;

    private static List<List<Integer>> fresh() {
        List<List<Integer>> lists = new ArrayList<>();
        for (int i = 0; i < 3; i++) {
            lists.add(new ArrayList<>());
        }
        return lists;
    }

    private int no(int refusal) {
        refusals[-refusal]++;
        return refusal;
    }

    private int cells() {
        return map == null ? 0 : map.at.length;
    }

    private int doors() {
        return map == null ? 0 : map.doors();
    }

    private boolean cellIs(int cell) {
        return cell >= 0 && cell < cells();
    }

    private boolean doorIs(int door) {
        return door >= 0 && door < doors();
    }

    private List<List<Way>> families() {
        if (families == null) {
            families = map.families();
        }
        return families;
    }

    private int[] own() {
        int[] order = new int[doors()];
        for (int i = 0; i < order.length; i++) {
            order[i] = i;
        }
        return order;
    }

    private boolean lawful(int door, int well) {
        int n = doors();
        return switch (law) {
            case 0 -> well == door;
            case 1 -> well == n - 1 - door;
            case 2 -> well == (door + 1) % n;
            case 3 -> true;
            default -> well == told[door];
        };
    }

    private List<List<Way>> lawful(List<List<Way>> from) {
        List<List<Way>> found = new ArrayList<>();
        for (List<Way> family : from) {
            boolean good = true;
            for (int door = 0; door < family.size(); door++) {
                good &= lawful(door, family.get(door).well);
            }
            if (good) {
                found.add(family);
            }
        }
        return found;
    }

    private static boolean through(List<Way> family, int cell) {
        for (Way way : family) {
            if (way.cells.contains(cell)) {
                return true;
            }
        }
        return false;
    }

    /** The order as wells by doors, or null. */
    private int[] order(int code) {
        int[] wells = new int[doors()];
        long rest = code;
        if (code < 0) {
            return null;
        }
        Set<Integer> had = new HashSet<>();
        for (int i = 0; i < wells.length; i++) {
            wells[i] = (int) (rest % 10);
            rest /= 10;
            if (wells[i] >= wells.length || !had.add(wells[i])) {
                return null;
            }
        }
        return rest == 0 ? wells : null;
    }

    private static int code(int[] wells) {
        int sum = 0;
        for (int i = wells.length - 1; i >= 0; i--) {
            sum = sum * 10 + wells[i];
        }
        return sum;
    }

    private int countBy(int[] order) {
        int n = 0;
        for (List<Way> family : families()) {
            boolean same = true;
            for (int door = 0; door < order.length; door++) {
                same &= family.get(door).well == order[door];
            }
            n += same ? 1 : 0;
        }
        return n;
    }

    private List<int[]> orders() {
        List<int[]> found = new ArrayList<>();
        for (int code = 0; code < 1000; code++) {
            int[] order = order(code);
            if (order != null) {
                found.add(order);
            }
        }
        return found;
    }

    int letter(int c) {
        if (c < 0) {
            return no(-4);
        }
        if (c > 255 || letters.length() == 48) {
            return no(-6);
        }
        letters.append((char) c);
        return letters.length();
    }

    /** Whether a text can be the beginning of rows (or all of them, if whole). */
    private static boolean rowsCan(String text, boolean whole) {
        String[] parts = text.split("/", -1);
        if (parts.length > 6 || !text.matches("[.1-9#abcxyz/]*")) {
            return false;
        }
        for (char c : "abcxyz".toCharArray()) {
            if (text.indexOf(c) != text.lastIndexOf(c)) {
                return false;
            }
        }
        for (int i = 0; i < parts.length; i++) {
            boolean open = i == parts.length - 1 && !whole;
            int least = open ? 0 : i == 0 ? 2 : parts[0].length();
            int greatest = i == 0 ? 5 : parts[0].length();
            if (parts[i].length() < least || parts[i].length() > greatest) {
                return false;
            }
        }
        return !whole || parts.length >= 2;
    }

    int slope() {
        String text = letters.toString();
        letters.setLength(0);
        for (int i = 1; i <= text.length(); i++) {
            if (!rowsCan(text.substring(0, i), false)) {
                return -1000 - (i - 1);
            }
        }
        if (!rowsCan(text, true)) {
            return -1000 - text.length();
        }
        StringBuilder there = new StringBuilder();
        for (char c : "abcxyz".toCharArray()) {
            there.append(text.indexOf(c) >= 0 ? c : "");
        }
        if (!Arrays.asList("ax", "abxy", "abcxyz").contains(there.toString())) {
            return -2000;
        }
        String[] parts = text.split("/", -1);
        map = new Map(parts.length, parts[0].length(), String.join("", parts).toCharArray());
        told = own();
        seen = new ArrayList<>();
        steps = fresh();
        forget();
        return cells();
    }

    private void forget() {
        families = null;
        mostNow = -1;
        shutsNow = -1;
    }

    int cell(int cell, int what) {
        if (!cellIs(cell)) {
            return no(-1);
        }
        char c = map.at[cell];
        return switch (what) {
            case 0 -> c == '#' ? 1 : c >= 'a' && c <= 'c' ? 2 : c >= 'x' && c <= 'z' ? 3 : 0;
            case 1 -> Character.isDigit(c) ? c - '0' : 0;
            case 2 -> c >= 'x' ? c - 'x' : c >= 'a' ? c - 'a' : -9;
            default -> no(-2);
        };
    }

    int law(int v) {
        if (v < 0 || v > 4) {
            return no(-2);
        }
        int was = law;
        law = v;
        return was;
    }

    int set(int order) {
        if (map == null) {
            return no(-3);
        }
        int[] wells = order(order);
        if (wells == null) {
            return no(-1);
        }
        int was = code(told);
        told = wells;
        return was;
    }

    int alone(int door, int well) {
        return doorIs(door) && doorIs(well) ? map.ways(door, well).size() : no(-1);
    }

    int all() {
        return map == null ? no(-3) : lawful(families()).size();
    }

    int signed() {
        if (map == null) {
            return 1000000000 - no(-3);
        }
        int sum = 0;
        for (int[] order : orders()) {
            int product = 1;
            for (int i = 0; i < order.length; i++) {
                product *= map.ways(i, order[i]).size();
                for (int j = 0; j < i; j++) {
                    product *= order[j] > order[i] ? -1 : 1;
                }
            }
            sum += product;
        }
        return sum;
    }

    int holds() {
        if (map == null) {
            return no(-3);
        }
        return families().size() == countBy(own()) ? 1 : 0;
    }

    int by(int order) {
        if (map == null) {
            return no(-3);
        }
        return order(order) == null ? no(-1) : countBy(order(order));
    }

    int cheap() {
        if (map == null) {
            return no(-3);
        }
        int least = -9;
        for (List<Way> family : lawful(families())) {
            int cost = 0;
            for (Way way : family) {
                for (int cell : way.cells) {
                    cost += Character.isDigit(map.at[cell]) ? map.at[cell] - '0' : 0;
                }
            }
            least = least == -9 ? cost : Math.min(least, cost);
        }
        return least;
    }

    int used(int cell, int part) {
        if (!cellIs(cell)) {
            return no(-1);
        }
        if (part != 0 && part != 1) {
            return no(-2);
        }
        int above = 0;
        int below = 0;
        for (List<Way> family : lawful(families())) {
            above += through(family, cell) ? 1 : 0;
            below++;
        }
        if (above == 0) {
            return part;
        }
        for (int d = below; d > 1; d--) {
            if (above % d == 0 && below % d == 0) {
                above /= d;
                below /= d;
            }
        }
        return part == 0 ? above : below;
    }

    private int stepOf(int k, int door, int step) {
        List<List<Way>> in = lawful(families());
        if (k >= in.size() || step >= in.get(k).get(door).steps.length()) {
            return -9;
        }
        return in.get(k).get(door).steps.charAt(step) == 'd' ? 0 : 1;
    }

    int rank(int k, int door, int step) {
        if (!doorIs(door)) {
            return no(-1);
        }
        return k < 0 || step < 0 ? no(-4) : stepOf(k, door, step);
    }

    int drawn(int z, int door, int step) {
        if (!doorIs(door)) {
            return no(-1);
        }
        if (step < 0) {
            return no(-4);
        }
        int m = lawful(families()).size();
        long next = (z * 1664525L + 1013904223L) & 0x7fffffffL;
        return m == 0 ? -9 : stepOf((int) (next / 256 % m), door, step);
    }

    int most() {
        if (map != null && mostNow < 0) {
            mostNow = map.most();
        }
        return map == null ? 0 : mostNow;
    }

    int shuts() {
        if (map == null || shutsNow >= 0) {
            return map == null ? 0 : shutsNow;
        }
        shutsNow = 0;
        for (int cell = 0; cell < cells(); cell++) {
            if (!map.isPost(cell) && map.with(cell, '#').most() < most()) {
                shutsNow |= 1 << cell;
            }
        }
        return shutsNow;
    }

    int seen(int cell) {
        if (!cellIs(cell)) {
            return no(-1);
        }
        if (seen.size() == 4) {
            return no(-6);
        }
        seen.add(cell);
        return seen.size();
    }

    int fits() {
        if (map == null) {
            return no(-3);
        }
        int n = 0;
        for (List<Way> family : lawful(families())) {
            boolean good = true;
            for (int cell : seen) {
                good &= through(family, cell);
            }
            n += good ? 1 : 0;
        }
        return n;
    }

    int who(int cell) {
        if (!cellIs(cell)) {
            return no(-1);
        }
        int bits = 0;
        for (List<Way> family : lawful(families())) {
            for (int door = 0; door < family.size(); door++) {
                bits |= family.get(door).cells.contains(cell) ? 1 << door : 0;
            }
        }
        return bits;
    }

    int lost(int cell) {
        if (!cellIs(cell)) {
            return no(-1);
        }
        if (map.at[cell] == '#' || map.isPost(cell)) {
            return no(-3);
        }
        return lawful(families()).size() - lawful(map.with(cell, '#').families()).size();
    }

    int few() {
        int best = 0;
        for (int n = 1; n <= doors(); n++) {
            Map less = map;
            for (int gone = n; gone < doors(); gone++) {
                less = less.with(less.find((char) ('a' + gone)), '.');
                less = less.with(less.find((char) ('x' + gone)), '.');
            }
            for (List<Way> family : less.families()) {
                boolean own = true;
                for (int door = 0; door < n; door++) {
                    own &= family.get(door).well == door;
                }
                best = own ? n : best;
            }
        }
        return best;
    }

    int boxes(int a, int b, int c) {
        if (a < 0 || b < 0 || c < 0) {
            return no(-4);
        }
        if (a > 4 || b > 4 || c > 4) {
            return no(-6);
        }
        int[] ahead = new int[b];
        Arrays.fill(ahead, c);
        return pile(a, ahead, new int[b], 0);
    }

    /** Lays the heights of a row one by one below the row ahead, then the rows that are left. */
    private static int pile(int rowsLeft, int[] ahead, int[] row, int at) {
        if (rowsLeft == 0) {
            return 1;
        }
        if (at == row.length) {
            return pile(rowsLeft - 1, row.clone(), new int[row.length], 0);
        }
        int sum = 0;
        int greatest = at == 0 ? ahead[0] : Math.min(ahead[at], row[at - 1]);
        for (int height = 0; height <= greatest; height++) {
            row[at] = height;
            sum += pile(rowsLeft, ahead, row, at + 1);
        }
        return sum;
    }

    int step(int door, int v) {
        if (!doorIs(door)) {
            return no(-1);
        }
        if (v != 0 && v != 1) {
            return no(-2);
        }
        if (steps.get(door).size() == 10) {
            return no(-6);
        }
        steps.get(door).add(v);
        return steps.get(door).size();
    }

    int judge() {
        if (map == null) {
            return no(-3);
        }
        int[] times = new int[cells()];
        int astray = -1;
        for (int door = 0; door < doors(); door++) {
            int from = map.find((char) ('a' + door));
            int row = from / map.columns;
            int column = from % map.columns;
            times[from]++;
            for (int i = 0; i < steps.get(door).size(); i++) {
                row += steps.get(door).get(i) == 0 ? 1 : 0;
                column += steps.get(door).get(i) == 1 ? 1 : 0;
                if (row >= map.rows || column >= map.columns || map.at[row * map.columns + column] == '#') {
                    return 1000 + 20 * door + i;
                }
                times[row * map.columns + column]++;
            }
            char end = map.at[row * map.columns + column];
            if (astray < 0 && (end < 'x' || !lawful(door, end - 'x'))) {
                astray = door;
            }
        }
        if (astray >= 0) {
            return 100 + astray;
        }
        for (int cell = 0; cell < times.length; cell++) {
            if (times[cell] > 1) {
                return cell;
            }
        }
        return -9;
    }

    int clear() {
        int n = 0;
        for (List<Integer> way : steps) {
            n += way.size();
        }
        seen = new ArrayList<>();
        steps = fresh();
        return n;
    }

    private static List<List<Integer>> copy(List<List<Integer>> lists) {
        List<List<Integer>> other = new ArrayList<>();
        for (List<Integer> list : lists) {
            other.add(new ArrayList<>(list));
        }
        return other;
    }

    int image() {
        image = new Object[] {map, law, told.clone(), List.of(new ArrayList<>(seen)), copy(steps)};
        return cells();
    }

    @SuppressWarnings("unchecked")
    int on() {
        if (image == null) {
            return no(-3);
        }
        if (map != image[0]) {
            forget();
        }
        map = (Map) image[0];
        law = (Integer) image[1];
        told = ((int[]) image[2]).clone();
        seen = new ArrayList<>(((List<List<Integer>>) image[3]).get(0));
        steps = copy((List<List<Integer>>) image[4]);
        return cells();
    }

    int count(int what) {
        int stones = 0;
        for (int i = 0; i < cells(); i++) {
            stones += map.at[i] == '#' ? 1 : 0;
        }
        return switch (what) {
            case 0 -> map == null ? 0 : map.rows;
            case 1 -> map == null ? 0 : map.columns;
            case 2 -> doors();
            case 3 -> stones;
            case 4 -> seen.size();
            case 5 -> letters.length();
            case 6 -> law;
            case 7 -> code(told);
            case 11, 12, 13, 14, 15, 16 -> refusals[what - 10];
            default -> -9;
        };
    }
}
