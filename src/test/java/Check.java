/** What the tests share: answers that are due, and the sentence of the document that asks for them. */
final class Check {
    private static final long MOST_SECONDS = 600;

    private static int wrong = 0;
    private static int asked = 0;
    private static volatile String sentence = "";

    static {
        Thread watch = new Thread(Check::endWhatDoesNotEnd);
        watch.setDaemon(true);
        watch.start();
    }

    private Check() {
    }

    /** A call that fails to end is a fault like others. */
    private static void endWhatDoesNotEnd() {
        try {
            Thread.sleep(1000 * MOST_SECONDS);
        } catch (InterruptedException e) {
            return;
        }
        System.out.println(sentence + "a call does not end");
        Runtime.getRuntime().halt(1);
    }

    /**
     * From here on a new object is tested for these words of the document (SentencesTest looks
     * whether they stand there, and whether none is left out).
     */
    static Near says(String section, String words) {
        sentence = section + ", \"" + words + "\": ";
        return new Near();
    }

    static void due(String call, long got, long want) {
        asked++;
        if (got != want) {
            wrong++;
            System.out.println(sentence + call + " answered " + got + ", due is " + want);
        }
    }

    static void due(String call, boolean got, boolean want) {
        due(call, got ? 1 : 0, want ? 1 : 0);
    }

    static void due(String call, String got, String want) {
        asked++;
        if (!got.equals(want)) {
            wrong++;
            System.out.println(sentence + call + " answered \"" + got + "\", due is \"" + want + "\"");
        }
    }

    static boolean allRight() {
        return wrong == 0;
    }

    static void finish() {
        System.out.println(wrong == 0 ? asked + " answers are as due" : wrong + " answers are not as due");
        if (wrong != 0) {
            System.exit(1);
        }
    }

    /** Four bytes of a text from a place on, as feed() takes them; beyond its end 0. */
    static int four(String text, int from) {
        int word = 0;
        for (int i = from; i < from + 4; i++) {
            word = word << 8 | (i < text.length() ? text.charAt(i) : 0);
        }
        return word;
    }
}
