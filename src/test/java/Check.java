/** Counts the answers that are not as due, and ends the program with exit code 1 if there was one. */
final class Check {
    private static int wrong = 0;

    private Check() {
    }

    /** Runs one test and tells it by the words of the document that it stands for. */
    static void test(String words, Runnable body) {
        int before = wrong;
        try {
            body.run();
        } catch (RuntimeException thrown) {
            wrong++;
            System.out.println("a call threw " + thrown + " at " + thrown.getStackTrace()[0]);
        }
        System.out.println((wrong == before ? "  holds:  " : "  BROKEN: ") + words);
    }

    static void due(String call, long got, long want) {
        if (got != want) {
            wrong++;
            System.out.println(call + " answered " + got + ", due is " + want);
        }
    }

    static void end() {
        if (wrong != 0) {
            System.out.println(wrong + " answers are not as due");
            System.exit(1);
        }
    }
}
