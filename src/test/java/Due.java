/** Counts the answers of one test class, and prints those that are not the ones that are due. */
final class Due {
    private static String subject = "";
    private static int right = 0;
    private static int wrong = 0;

    private Due() {
    }

    /** What the answers from here on are about, for the lines that are printed. */
    static void about(String words) {
        subject = words + ": ";
    }

    static void is(String what, long want, long got) {
        if (got == want) {
            right++;
        } else {
            wrong++;
            System.out.println(subject + what + " answered " + got + ", due is " + want);
        }
    }

    static void is(String what, boolean want, boolean got) {
        is(what, want ? 1 : 0, got ? 1 : 0);
    }

    static void holds(String what, boolean claim) {
        is(what, true, claim);
    }

    static int answers() {
        return right + wrong;
    }

    /** The last call of a test's main method. */
    static void end() {
        System.out.println(right + " answers as due, " + wrong + " not");
        if (wrong != 0) {
            System.exit(1);
        }
    }
}
