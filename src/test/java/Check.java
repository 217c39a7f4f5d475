/** Counts the answers that are not as due, and ends a test with them. */
final class Check {
    private static int wrong = 0;
    private static String about = "";

    private Check() {
    }

    /** What the answers to come are about, for the lines that are printed. */
    static void about(String what) {
        about = what;
    }

    static void due(String call, long got, long want) {
        due(call, "" + got, "" + want);
    }

    static void due(String call, String got, String want) {
        if (!got.equals(want)) {
            wrong++;
            System.out.println(about + ": " + call + " answered " + got + ", due is " + want);
        }
    }

    static void end() {
        System.out.println(wrong == 0 ? "all answers are as due" : wrong + " answers are not as due");
        if (wrong != 0) {
            System.exit(1);
        }
    }
}
