/** Counts answers, prints each that is not the one that is due, and ends a test. */
final class Due {
    private static int right = 0;
    private static int wrong = 0;
    private static String sentence = "";

    private Due() {
    }

    /** What is looked at from here on stands for this sentence of the document. */
    static void about(String told) {
        sentence = "[" + told + "] ";
    }

    static void is(String what, long got, long want) {
        if (got == want) {
            right++;
        } else {
            wrong++;
            System.out.println(sentence + what + " answered " + got + ", due is " + want);
        }
    }

    static void holds(String what, boolean so) {
        if (so) {
            right++;
        } else {
            wrong++;
            System.out.println(sentence + "not so: " + what);
        }
    }

    static void finish(String test) {
        System.out.println(test + ": " + right + " as due, " + wrong + " not");
        if (wrong != 0 || right == 0) {
            System.exit(1);
        }
    }
}
