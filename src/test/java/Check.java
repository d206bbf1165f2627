/** Counts the answers of one test program that are not as due, each under the sentence of the document that asks it. */
final class Check {
    private static int asked = 0;
    private static int wrong = 0;
    private static int sentences = 0;
    private static int askedBefore = 0;
    private static String sentence = "";

    private Check() {
    }

    /** What is asked from here on holds these words of the section of a promise. */
    static void sentence(int promise, String words) {
        open("Promise " + promise + ", \"" + words + "\": ");
    }

    /** What is asked from here on holds these words of the section Terms, by the calls of a promise. */
    static void terms(int promise, String words) {
        open("Promise " + promise + " by Terms, \"" + words + "\": ");
    }

    /** What is asked from here on holds these words of the section What it is, by the calls of a promise. */
    static void whatItIs(int promise, String words) {
        open("Promise " + promise + " by What it is, \"" + words + "\": ");
    }

    private static void open(String next) {
        closeSentence();
        sentence = next;
        sentences++;
        askedBefore = asked;
    }

    /** A sentence under which nothing was asked has no test. */
    private static void closeSentence() {
        if (!sentence.isEmpty() && asked == askedBefore) {
            wrong++;
            System.out.println(sentence + "nothing was asked");
        }
        sentence = "";
    }

    static void due(String what, long got, long want) {
        asked++;
        if (got != want) {
            wrong++;
            System.out.println(sentence + what + " answered " + got + ", due is " + want);
        }
    }

    static void due(String what, boolean got, boolean want) {
        due(what, got ? 1L : 0L, want ? 1L : 0L);
    }

    static void holds(String what, boolean got) {
        due(what, got, true);
    }

    /** The call throws an exception of this very class. */
    static void refused(String what, Class<? extends RuntimeException> want, Runnable call) {
        asked++;
        String got = "nothing";
        try {
            call.run();
        } catch (RuntimeException e) {
            got = e.getClass().getName();
        }
        if (!got.equals(want.getName())) {
            wrong++;
            System.out.println(sentence + what + " threw " + got + ", due is " + want.getName());
        }
    }

    static void noIndex(String what, Runnable call) {
        refused(what, IndexOutOfBoundsException.class, call);
    }

    static void noArgument(String what, Runnable call) {
        refused(what, IllegalArgumentException.class, call);
    }

    static void noState(String what, Runnable call) {
        refused(what, IllegalStateException.class, call);
    }

    /** Ends the test program; one that asked nothing has failed too. */
    static void finish() {
        closeSentence();
        System.out.println(sentences + " sentences, " + asked + " answers, " + wrong + " not as due");
        System.exit(wrong == 0 && asked > 0 ? 0 : 1);
    }
}
