/** Counts answers that are not as due. */
final class Check {
    private int looked;
    private int wrong;

    void due(String call, long got, long want) {
        looked++;
        if (got != want) {
            wrong++;
            if (wrong <= 40) {
                System.out.println(call + " answered " + got + ", due is " + want);
            }
        }
    }

    void yes(String what, boolean held) {
        looked++;
        if (!held) {
            wrong++;
            System.out.println("not so: " + what);
        }
    }

    boolean allRight() {
        return wrong == 0;
    }

    /** Ends the program: with exit code 1 if something was wrong. */
    void end(String name) {
        System.out.println(name + ": " + looked + " answers looked at, " + wrong + " not as due");
        System.exit(wrong == 0 && looked > 0 ? 0 : 1);
    }
}
