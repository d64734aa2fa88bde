/** What the tests share: answers that are due, texts on THE TAPE, texts that are SHOWN. */
final class Check {
    private static int wrong = 0;
    private static int asked = 0;

    private Check() {
    }

    static void due(String call, long got, long want) {
        asked++;
        if (got != want) {
            wrong++;
            System.out.println(call + " answered " + got + ", due is " + want);
        }
    }

    static void due(String call, boolean got, boolean want) {
        due(call, got ? 1 : 0, want ? 1 : 0);
    }

    static void due(String call, String got, String want) {
        asked++;
        if (!got.equals(want)) {
            wrong++;
            System.out.println(call + " answered \"" + got + "\", due is \"" + want + "\"");
        }
    }

    static boolean allRight() {
        return wrong == 0;
    }

    static void finish() {
        System.out.println(wrong == 0 ? asked + " answers are as due" : wrong + " answers are not as due");
        if (wrong != 0) {
            System.exit(1);
        }
    }

    /** Four bytes of a text from a place on, as feed() takes them; beyond its end 0. */
    static int four(String text, int from) {
        int word = 0;
        for (int i = from; i < from + 4; i++) {
            word = word << 8 | (i < text.length() ? text.charAt(i) : 0);
        }
        return word;
    }

    /** THE TAPE is this text then. */
    static void tape(StairsNear x, String text) {
        x.end(0);
        for (int i = 0; i < text.length(); i += 20) {
            x.feed(four(text, i), four(text, i + 4), four(text, i + 8), four(text, i + 12), four(text, i + 16));
        }
        x.end(text.length());
    }

    static int read(StairsNear x, int slot, String text) {
        tape(x, text);
        return x.poly(slot);
    }

    static String shown(StairsNear x, int slot) {
        int many = x.show(slot);
        StringBuilder text = new StringBuilder();
        for (int i = 0; i < many; i++) {
            text.append((char) x.out(i));
        }
        return text.toString();
    }
}
