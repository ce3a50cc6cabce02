/** Counts answers that are not as due. */
final class Check {
    private int looked;
    private int wrong;
    private String about = "";

    /** What the next answers are about: it is told with each that is not as due. */
    void about(String words) {
        about = words.isEmpty() ? "" : "[" + words + "] ";
    }

    void due(String call, long got, long want) {
        yes(call + " answered " + got + ", due is " + want, got == want);
    }

    void yes(String what, boolean held) {
        looked++;
        if (!held) {
            wrong++;
            if (wrong <= 40) {
                System.out.println("not so: " + about + what);
            }
        }
    }

    boolean allRight() {
        return wrong == 0;
    }

    /** Ends the program: with exit code 1 if something was wrong. */
    void end(String name) {
        System.out.println(name + ": " + looked + " answers looked at, " + wrong + " not as due");
        System.exit(wrong == 0 && looked > 0 ? 0 : 1);
    }
}
