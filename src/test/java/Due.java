/** Counts the answers that are not the ones that are due; a boolean counts 1 or 0. */
final class Due {
    private static String sentence = "";
    private static int asked = 0;
    private static int wrong = 0;

    private Due() {
    }

    /** Names the sentence of the document that the answers after it are tests of. */
    static void by(String where, String words) {
        sentence = where + ", '" + words + "': ";
    }

    static void is(String call, long got, long want) {
        asked++;
        if (got != want) {
            wrong++;
            System.out.println(sentence + call + " answered " + got + ", due is " + want);
        }
    }

    static void is(String call, boolean got, boolean want) {
        is(call, got ? 1L : 0L, want ? 1L : 0L);
    }

    static void end() {
        if (asked == 0) {
            System.out.println("nothing was asked");
            System.exit(1);
        }
        System.out.println(wrong == 0
                ? "all " + asked + " answers are as due"
                : wrong + " of " + asked + " answers are not as due");
        if (wrong != 0) {
            System.exit(1);
        }
    }
}
