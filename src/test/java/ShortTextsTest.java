/**
 * All texts of up to five of these signs; Near holds what poly(), fault() and show() answer against
 * Reference. What depends on where a text ends, or on two tokens that meet, stands in short ones.
 */
public final class ShortTextsTest {
    private static final String SIGNS = "xy^3 +-";
    private static final int MOST_SIGNS = 5;
    private static final int MOST_CALLS = 512;
    private static final int CALLS_A_TEXT = 9;

    private Near near = new Near();

    public static void main(String[] args) {
        new ShortTextsTest().readAll("");
        Check.finish();
    }

    private void readAll(String begin) {
        read(begin);
        if (begin.length() < MOST_SIGNS) {
            for (int i = 0; i < SIGNS.length(); i++) {
                readAll(begin + SIGNS.charAt(i));
            }
        }
    }

    private void read(String text) {
        if (near.callsMade() + CALLS_A_TEXT > MOST_CALLS) {
            near = new Near();
        }
        int terms = near.read(0, text);
        near.fault(0);
        near.fault(1);
        int last = near.show(0) - 1;
        near.out(last);
        Check.due("\"" + text + "\": a POLYNOMIAL or a FAULT", terms == Reference.NONE, near.fault(0) != 0);
    }
}
