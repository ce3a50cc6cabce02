/** What the tests that were worked out by hand share: slopes told as text, ways told as letters. */
abstract class Hand {
    static final Check CHECK = new Check();
    /** The greatest and the least int, and others far from all that a call takes. */
    static final int[] FAR_ABOVE = {1 << 8, 1 << 16, 1 << 30, Integer.MAX_VALUE};
    static final int[] FAR_BELOW = {-2, -31, -256, Integer.MIN_VALUE};

    /** The words of the document that the next answers are about. */
    static void sentence(String words) {
        CHECK.about(words);
    }

    static void due(String call, long got, long want) {
        CHECK.due(call, got, want);
    }

    static NeverCross told(String text) {
        NeverCross x = new NeverCross();
        due("slope() of " + text, tell(x, text), text.replace("/", "").length());
        return x;
    }

    static NeverCross told(String text, int law) {
        NeverCross x = told(text);
        x.law(law);
        return x;
    }

    static int tell(NeverCross x, String text) {
        for (char c : text.toCharArray()) {
            x.letter(c);
        }
        return x.slope();
    }

    static void walk(NeverCross x, int door, String steps) {
        for (char c : steps.toCharArray()) {
            x.step(door, c == 'd' ? 0 : 1);
        }
    }

    /** The way of a door in the k-th family, as letters; it asks two steps beyond the longest way. */
    static String ranked(NeverCross x, int k, int door) {
        StringBuilder steps = new StringBuilder();
        for (int step = 0; step < 12; step++) {
            int v = x.rank(k, door, step);
            steps.append(v == 0 ? "d" : v == 1 ? "r" : "");
        }
        return steps.toString();
    }

    static void dueText(String call, String got, String want) {
        CHECK.yes(call + " answered " + got + ", due is " + want, got.equals(want));
    }
}
