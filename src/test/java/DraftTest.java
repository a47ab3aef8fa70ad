/** Promises 1 (a new object), 2 (type), 3 (cut). */
public final class DraftTest {
    public static void main(String[] args) {
        newObjectIsEmpty();
        typeTellsTheLength();
        typeRefuses();
        cutKeepsTheFirst();
        cutRefuses();
        Check.end();
    }

    private static void newObjectIsEmpty() {
        OfficeSheet sheet = new OfficeSheet();
        Check.due("NONE", OfficeSheet.NONE, -1);
        for (int office = 0; office < 3; office++) {
            int here = office;
            for (int of = 0; of < 3; of++) {
                Check.due("new known", sheet.known(office, of), 0);
            }
            Check.due("new waiting", sheet.waiting(office), 0);
            Check.due("new rows", sheet.lines(office, 0), 0);
            Check.due("new columns", sheet.lines(office, 1), 0);
            Check.index("new line", () -> sheet.line(here, 0, 0));
            Check.index("new value", () -> sheet.value(here, 0, 0));
        }
        Check.index("new out", () -> sheet.out(0));
        Check.argument("new draft has none to keep", () -> sheet.cut(1));
        Check.due("first character", sheet.type('x'), 1);
    }

    private static void typeTellsTheLength() {
        OfficeSheet sheet = new OfficeSheet();
        for (int n = 1; n <= 20; n++) {
            Check.due("type " + n, sheet.type(n % 2 == 0 ? (char) 32 : (char) 126), n);
        }
        Check.state("type 21", () -> sheet.type('1'));
        Check.argument("a wrong character goes before a full draft", () -> sheet.type((char) 31));
        sheet.cut(19);
        Check.due("type after cut", sheet.type('1'), 20);
    }

    private static void typeRefuses() {
        OfficeSheet sheet = new OfficeSheet();
        char[] refused = {0, 10, 31, 127, 128, 255, 256, 0x2212, 0xffff};
        for (char c : refused) {
            Check.argument("type " + (int) c, () -> sheet.type(c));
        }
        Check.due("refused characters are not typed", sheet.type('1'), 1);
    }

    private static void cutKeepsTheFirst() {
        OfficeSheet sheet = Check.sheet(1, 1);
        Check.draft(sheet, "12345");
        sheet.cut(5);
        sheet.cut(3);
        Check.due("enter what is kept", sheet.enter(0, 0, 0), -1);
        Check.due("the first three", sheet.value(0, 0, 0), 1230000);
        Check.due("the draft stays when entered", sheet.type('9'), 4);
        Check.due("enter again", sheet.enter(0, 0, 0), -1);
        Check.due("goes on behind them", sheet.value(0, 0, 0), 12390000);
        sheet.cut(0);
        sheet.cut(0);
        Check.due("nothing is kept", sheet.type('7'), 1);
    }

    private static void cutRefuses() {
        OfficeSheet sheet = new OfficeSheet();
        sheet.type('1');
        sheet.type('2');
        int[] refused = {-1, 3, 20, 21, Integer.MIN_VALUE, Integer.MAX_VALUE};
        for (int n : refused) {
            Check.argument("cut " + n, () -> sheet.cut(n));
        }
        Check.due("refused cuts change nothing", sheet.type('3'), 3);
    }
}
