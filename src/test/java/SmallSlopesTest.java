/** Every slope there is of few cells, and every text of few letters: the class and the oracle have to answer alike. */
public final class SmallSlopesTest {
    private static final Check CHECK = new Check();
    /** One digit stands for all: how costs add up is for larger slopes. */
    private static final String CELLS = ".#3abcxyz";
    /** Places for one door and one well, three letters for each of the others; for two and two; for three and three. */
    private static final int OF_SIX = 6 * 5 * 81 + 6 * 5 * 4 * 3 * 9 + 720;

    public static void main(String[] args) {
        CHECK.due("slopes of 2 by 2", slopesOf(2, 2), 12 * 9 + 24);
        CHECK.due("slopes of 2 by 3", slopesOf(2, 3), OF_SIX);
        CHECK.due("slopes of 3 by 2", slopesOf(3, 2), OF_SIX);
        textsOf("./#abxy", "", 6);
        textsOf("./ax0", "../", 6);
        CHECK.end("SmallSlopesTest");
    }

    private static int slopesOf(int rows, int columns) {
        return fill(new char[rows * columns], 0, columns);
    }

    private static int fill(char[] cells, int at, int columns) {
        if (at == cells.length) {
            return look(textOf(cells, columns));
        }
        int slopes = 0;
        for (char letter : CELLS.toCharArray()) {
            if (letter < 'a' || new String(cells, 0, at).indexOf(letter) < 0) {
                cells[at] = letter;
                slopes += fill(cells, at + 1, columns);
            }
        }
        return slopes;
    }

    private static String textOf(char[] cells, int columns) {
        StringBuilder text = new StringBuilder();
        for (int i = 0; i < cells.length; i++) {
            text.append(i > 0 && i % columns == 0 ? "/" : "").append(cells[i]);
        }
        return text.toString();
    }

    private static int look(String text) {
        NeverCross x = new NeverCross();
        Oracle o = new Oracle();
        for (char c : text.toCharArray()) {
            x.letter(c);
            o.letter(c);
        }
        CHECK.about(text);
        CHECK.due("slope()", x.slope(), o.slope());
        if (o.count(2) == 0) {
            return 0;
        }
        withoutLaw(x, o);
        for (int law = 0; law < 4; law++) {
            CHECK.about(text + " by LAW " + law);
            CHECK.due("law()", x.law(law), o.law(law));
            byLaw(x, o);
        }
        return 1;
    }

    private static void withoutLaw(NeverCross x, Oracle o) {
        CHECK.due("STONES", x.count(3), o.count(3));
        CHECK.due("TOLD", x.count(7), o.count(7));
        CHECK.due("signed()", x.signed(), o.signed());
        CHECK.due("holds()", x.holds(), o.holds());
        CHECK.due("most()", x.most(), o.most());
        CHECK.due("shuts()", x.shuts(), o.shuts());
        CHECK.due("few()", x.few(), o.few());
        for (int door = 0; door < o.count(2); door++) {
            for (int well = 0; well < o.count(2); well++) {
                CHECK.due("alone(" + door + ", " + well + ")", x.alone(door, well), o.alone(door, well));
            }
        }
    }

    private static void byLaw(NeverCross x, Oracle o) {
        CHECK.due("all()", x.all(), o.all());
        CHECK.due("cheap()", x.cheap(), o.cheap());
        for (int cell = 0; cell < o.count(0) * o.count(1); cell++) {
            CHECK.due("used(" + cell + ", 0)", x.used(cell, 0), o.used(cell, 0));
            CHECK.due("used(" + cell + ", 1)", x.used(cell, 1), o.used(cell, 1));
            CHECK.due("who(" + cell + ")", x.who(cell), o.who(cell));
            CHECK.due("lost(" + cell + ")", x.lost(cell), o.lost(cell));
        }
        int families = o.all();
        for (int door = 0; door < o.count(2); door++) {
            for (int k = 0; k <= families; k++) {
                for (int step = 0; step < 3; step++) {
                    CHECK.due("rank(" + k + ", " + door + ", " + step + ")", x.rank(k, door, step), o.rank(k, door, step));
                }
            }
        }
    }

    /** All texts that begin so and have at most so many letters more. */
    private static void textsOf(String letters, String text, int more) {
        NeverCross x = new NeverCross();
        Oracle o = new Oracle();
        for (char c : text.toCharArray()) {
            x.letter(c);
            o.letter(c);
        }
        CHECK.about(text);
        CHECK.due("slope()", x.slope(), o.slope());
        for (int i = 0; i < letters.length() && more > 0; i++) {
            textsOf(letters, text + letters.charAt(i), more - 1);
        }
    }
}
