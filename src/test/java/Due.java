import java.util.List;

/** Compares answers with those that are due, and ends the test's program accordingly. */
final class Due {
    private static int wrong = 0;
    private static long asked = 0;
    private static String sentence = "";

    private Due() {
    }

    /** The document's words that the answers from here on are about. */
    static void sentence(String promise, String words) {
        sentence = promise + ", \"" + words + "\": ";
    }

    static void due(String call, long got, long want) {
        asked++;
        if (got != want) {
            tell(call + " answered " + got + ", due is " + want);
        }
    }

    /** The text is put together only where it is needed: there may be millions of answers. */
    static void due(String call, List<Integer> got, List<Integer> want) {
        asked += want.size();
        if (!got.equals(want)) {
            tell(call + " answered " + got + ", due is " + want);
        }
    }

    private static void tell(String what) {
        wrong++;
        System.out.println(sentence + what);
    }

    static void end() {
        if (wrong != 0) {
            System.out.println(wrong + " of " + asked + " answers are not as due");
            System.exit(1);
        }
        System.out.println("all " + asked + " answers are as due");
    }
}
