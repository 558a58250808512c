/** Counts and prints the answers that are not as due. */
final class Due {
    private static int wrong = 0;
    private static int asked = 0;
    private static String about = "";

    /** What is asked from now on is said to be about this. */
    static void about(String what) {
        about = what;
    }

    static void due(String what, long got, long want) {
        asked++;
        if (got != want) {
            wrong++;
            System.out.println(about + what + " answered " + got + ", due is " + want);
        }
    }

    static void holds(String what, boolean so) {
        due(what, so ? 1 : 0, 1);
    }

    static int asked() {
        return asked;
    }

    static void end() {
        System.out.println(wrong == 0 ? "all " + asked + " are as due" : wrong + " of " + asked + " are not as due");
        if (wrong != 0) System.exit(1);
    }
}
