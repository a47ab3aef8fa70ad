/**
 * Promise 7 (enter), with all short texts of some characters, alone and behind some beginnings: where their
 * fault is, and if there is none, what they are worth and how they are written, is what Model answers.
 */
public final class ShortTextsTest {
    private static final String CHARACTERS = "=-+*/():snmABC0123. x";
    private static final String[] BEGINNINGS = {
        "", "-", "=A", "=A1", "=1", "=1.", "=(", "=-", "=1+", "=1*", "=(1", "=s", "=s(", "=n(A1", "=m(A1:", "=s(A1:B2",
    };
    private static final int FEW_CALLS = 400;
    private static final int FEW_ACTS = 38;

    private OfficeSheet sheet;
    private Model model;
    private int calls = FEW_CALLS;

    public static void main(String[] args) {
        ShortTextsTest test = new ShortTextsTest();
        for (String beginning : BEGINNINGS) {
            test.tryAll(beginning, 2);
        }
        test.tryAll("=", args.length > 0 ? Integer.parseInt(args[0]) : 3);
        Check.end();
    }

    private void tryAll(String text, int more) {
        tryText(text);
        for (int i = 0; i < CHARACTERS.length() && more > 0; i++) {
            tryAll(text + CHARACTERS.charAt(i), more - 1);
        }
    }

    private void tryText(String text) {
        if (calls >= FEW_CALLS || model.known(0, 0) >= FEW_ACTS) {
            begin();
        }
        sheet.cut(0);
        model.cut(0);
        for (int i = 0; i < text.length(); i++) {
            sheet.type(text.charAt(i));
            model.type(text.charAt(i));
        }
        int want = model.enter(0, 1, 1);
        Check.due("enter " + text, sheet.enter(0, 1, 1), want);
        calls += text.length() + 2;
        if (want == OfficeSheet.NONE) {
            compareResults(text);
        }
    }

    private void compareResults(String text) {
        Check.due("error of " + text, sheet.error(0, 1, 1), model.error(0, 1, 1));
        Check.due("value of " + text, sheet.value(0, 1, 1), model.value(0, 1, 1));
        int length = model.print(0, 1, 1);
        Check.due("length of " + text, sheet.print(0, 1, 1), length);
        for (int k = 0; k < length; k++) {
            Check.due("character " + k + " of " + text, sheet.out(k), model.out(k));
        }
        calls += length + 3;
    }

    /** Two rows and two columns, of which one cell holds a number and one a formula with an error. */
    private void begin() {
        sheet = Check.filled(2, 2, "A1 3", "B1 =1/0");
        model = new Model();
        model.put(0, 0, -1);
        model.put(0, 0, 0);
        model.put(0, 1, -1);
        model.put(0, 1, 0);
        model.type('3');
        model.enter(0, 0, 0);
        model.cut(0);
        for (char c : "=1/0".toCharArray()) {
            model.type(c);
        }
        model.enter(0, 0, 1);
        calls = 20;
    }
}
