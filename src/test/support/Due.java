/** Counts the answers that are not due; the tests of this project share it. */
final class Due {
    private static final int MOST_PRINTED = 50;

    private static long asked = 0;
    private static int wrong = 0;
    private static String heading = "";

    private Due() {
    }

    /** What is printed ahead of each fault from now on. */
    static void under(String newHeading) {
        heading = newHeading;
    }

    static void due(String call, long got, long want) {
        asked++;
        if (got != want) {
            fault(call + " answered " + got + ", due is " + want);
        }
    }

    static void holds(String what, boolean does) {
        asked++;
        if (!does) {
            fault(what);
        }
    }

    private static void fault(String what) {
        wrong++;
        if (wrong <= MOST_PRINTED) {
            System.out.println(heading + what);
        }
    }

    static void end() {
        System.out.println(asked + " answers, " + wrong + " not as due");
        if (wrong != 0 || asked == 0) {
            System.exit(1);
        }
    }
}
