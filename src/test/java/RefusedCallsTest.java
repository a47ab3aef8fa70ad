import java.util.List;
import java.util.function.Consumer;
import java.util.function.IntSupplier;
import java.util.function.Supplier;

/**
 * "Methods throw what their comments name, the one named first when several would do; a call that throws
 * changes nothing." Each refused call is made on a sheet of its own, of which all is told then that can be:
 * it must be what a sheet tells that did not get the call.
 */
public final class RefusedCallsTest {
    private static final int NONE = OfficeSheet.NONE;
    private static final int ROW = 0;
    private static final int COLUMN = 1;
    private static final Class<IllegalArgumentException> ARGUMENT = IllegalArgumentException.class;
    private static final Class<IndexOutOfBoundsException> INDEX = IndexOutOfBoundsException.class;
    private static final Class<IllegalStateException> STATE = IllegalStateException.class;
    private static final Class<UnsupportedOperationException> UNSUPPORTED = UnsupportedOperationException.class;

    private final Supplier<OfficeSheet> sheets;
    private final String untouched;

    private RefusedCallsTest(Supplier<OfficeSheet> sheets) {
        this.sheets = sheets;
        this.untouched = told(sheets.get());
    }

    public static void main(String[] args) {
        toldBetweenChanges();
        new RefusedCallsTest(OfficeSheet::new).ofNewSheets();
        new RefusedCallsTest(RefusedCallsTest::lively).ofLivelySheets();
        new RefusedCallsTest(RefusedCallsTest::full).ofFullSheets();
        new RefusedCallsTest(RefusedCallsTest::worn).ofWornSheets();
        Check.end();
    }

    private void refused(String what, Class<? extends RuntimeException> due, Consumer<OfficeSheet> call) {
        OfficeSheet sheet = sheets.get();
        Check.throwing(what, due, () -> call.accept(sheet));
        Check.due(what + " changes nothing", told(sheet), untouched);
    }

    /** What is compared would show a change: each of these calls makes one. */
    private static void toldBetweenChanges() {
        String before = told(lively());
        List<Consumer<OfficeSheet>> changes = List.of(
                sheet -> sheet.type('1'),
                sheet -> sheet.cut(2),
                sheet -> sheet.put(1, COLUMN, 1),
                sheet -> sheet.move(2, ROW, 1, 1),
                sheet -> sheet.remove(0, ROW, 1),
                sheet -> sheet.undo(2),
                sheet -> sheet.deliver(1, 0, 7),
                sheet -> sheet.deliver(2, 0, 8),
                sheet -> sheet.print(0, 0, 1));
        for (int i = 0; i < changes.size(); i++) {
            OfficeSheet sheet = lively();
            changes.get(i).accept(sheet);
            Check.due("change " + i + " is told", told(sheet).equals(before) ? 1 : 0, 0);
        }
    }

    /** Two rows and columns that all know, contents, an act that waits, a draft with a fault, and OUT. */
    private static OfficeSheet lively() {
        OfficeSheet sheet = Check.sheet(2, 2);
        Check.meet(sheet);
        Check.fill(sheet, 0, "A1 5", "B1 =A1*2");
        Check.fill(sheet, 1, "A1 6");
        Check.fill(sheet, 2, "A1 7", "B2 =s(A1:B1)");
        sheet.put(0, COLUMN, NONE);
        sheet.put(0, ROW, 1);
        sheet.deliver(0, 1, 1);
        sheet.deliver(1, 0, 5);
        sheet.deliver(2, 0, 7);
        sheet.print(0, 0, 2);
        Check.draft(sheet, "=1+");
        return sheet;
    }

    /** All offices show as many lines as they may put, and the draft is full. */
    private static OfficeSheet full() {
        OfficeSheet sheet = Check.sheet(9, 5);
        Check.meet(sheet);
        Check.draft(sheet, "=11111+11111+11111+1");
        return sheet;
    }

    /** Office 0 made all its acts, of which the last one counts at office 0. */
    private static OfficeSheet worn() {
        OfficeSheet sheet = Check.sheet(2, 2);
        Check.meet(sheet);
        for (int n = 4; n < 39; n++) {
            sheet.move(0, ROW, 0, 1);
        }
        Check.fill(sheet, 0, "A1 5");
        return sheet;
    }

    private void ofNewSheets() {
        refused("cut", ARGUMENT, sheet -> sheet.cut(1));
        refused("type", ARGUMENT, sheet -> sheet.type((char) 31));
        refused("put", INDEX, sheet -> sheet.put(0, ROW, 0));
        refused("move", INDEX, sheet -> sheet.move(0, ROW, 0, NONE));
        refused("remove", INDEX, sheet -> sheet.remove(0, COLUMN, 0));
        refused("enter", INDEX, sheet -> sheet.enter(0, 0, 0));
        refused("undo", UNSUPPORTED, sheet -> sheet.undo(0));
        refused("undo at none", ARGUMENT, sheet -> sheet.undo(3));
        refused("deliver", ARGUMENT, sheet -> sheet.deliver(0, 1, 1));
        refused("line", INDEX, sheet -> sheet.line(0, ROW, 0));
        refused("value", INDEX, sheet -> sheet.value(0, 0, 0));
        refused("error", INDEX, sheet -> sheet.error(0, 0, 0));
        refused("also", INDEX, sheet -> sheet.also(0, 0, 0));
        refused("print", INDEX, sheet -> sheet.print(0, 0, 0));
        refused("out", INDEX, sheet -> sheet.out(0));
    }

    private void ofLivelySheets() {
        refused("type", ARGUMENT, sheet -> sheet.type((char) 127));
        refused("cut to more", ARGUMENT, sheet -> sheet.cut(4));
        refused("cut to less than none", ARGUMENT, sheet -> sheet.cut(-1));
        refused("put at none", ARGUMENT, sheet -> sheet.put(3, ROW, NONE));
        refused("put of none", ARGUMENT, sheet -> sheet.put(0, 2, NONE));
        refused("put behind none", INDEX, sheet -> sheet.put(0, ROW, 3));
        refused("put at none of none behind none", ARGUMENT, sheet -> sheet.put(-1, 5, 9));
        refused("put of none behind none", ARGUMENT, sheet -> sheet.put(0, -1, 9));
        refused("move at none", ARGUMENT, sheet -> sheet.move(3, ROW, 0, 1));
        refused("move of none", ARGUMENT, sheet -> sheet.move(0, 2, 0, 1));
        refused("move of no line", INDEX, sheet -> sheet.move(0, ROW, 3, 1));
        refused("move behind no line", INDEX, sheet -> sheet.move(0, ROW, 1, 3));
        refused("move at none of no line", ARGUMENT, sheet -> sheet.move(3, ROW, 7, 7));
        refused("move of none of no line", ARGUMENT, sheet -> sheet.move(0, 2, 7, 7));
        refused("remove at none", ARGUMENT, sheet -> sheet.remove(3, ROW, 0));
        refused("remove of none", ARGUMENT, sheet -> sheet.remove(0, 2, 0));
        refused("remove of no line", INDEX, sheet -> sheet.remove(0, ROW, 3));
        refused("remove at none of no line", ARGUMENT, sheet -> sheet.remove(3, ROW, 7));
        refused("remove of none of no line", ARGUMENT, sheet -> sheet.remove(0, 2, 7));
        refused("enter at none", ARGUMENT, sheet -> sheet.enter(3, 0, 0));
        refused("enter into no row", INDEX, sheet -> sheet.enter(0, 3, 0));
        refused("enter into no column", INDEX, sheet -> sheet.enter(0, 0, 3));
        refused("enter at none into no row", ARGUMENT, sheet -> sheet.enter(3, 7, 7));
        refused("undo at none", ARGUMENT, sheet -> sheet.undo(-1));
        refused("deliver to none", ARGUMENT, sheet -> sheet.deliver(3, 0, 6));
        refused("deliver from none", ARGUMENT, sheet -> sheet.deliver(0, 3, 1));
        refused("deliver to itself", ARGUMENT, sheet -> sheet.deliver(0, 0, 1));
        refused("deliver act 0", ARGUMENT, sheet -> sheet.deliver(1, 0, 0));
        refused("deliver no act", ARGUMENT, sheet -> sheet.deliver(1, 0, 9));
        refused("known at none", ARGUMENT, sheet -> sheet.known(3, 0));
        refused("known of none", ARGUMENT, sheet -> sheet.known(0, 3));
        refused("waiting at none", ARGUMENT, sheet -> sheet.waiting(3));
        refused("lines at none", ARGUMENT, sheet -> sheet.lines(3, ROW));
        refused("lines of none", ARGUMENT, sheet -> sheet.lines(0, 2));
        refused("line at none", ARGUMENT, sheet -> sheet.line(3, ROW, 7));
        refused("line of none", ARGUMENT, sheet -> sheet.line(0, 2, 7));
        refused("no line", INDEX, sheet -> sheet.line(0, ROW, 3));
        refused("value at none", ARGUMENT, sheet -> sheet.value(3, 7, 7));
        refused("value of no cell", INDEX, sheet -> sheet.value(0, 3, 0));
        refused("error at none", ARGUMENT, sheet -> sheet.error(3, 7, 7));
        refused("error of no cell", INDEX, sheet -> sheet.error(0, 0, 3));
        refused("also at none", ARGUMENT, sheet -> sheet.also(3, 7, 7));
        refused("also of no cell", INDEX, sheet -> sheet.also(0, 3, 0));
        refused("print at none", ARGUMENT, sheet -> sheet.print(3, 7, 7));
        refused("print of no row", INDEX, sheet -> sheet.print(0, 3, 0));
        refused("print of no column", INDEX, sheet -> sheet.print(0, 0, 3));
        refused("out before the first", INDEX, sheet -> sheet.out(-1));
        refused("out behind the last", INDEX, sheet -> sheet.out(5));
    }

    private void ofFullSheets() {
        refused("type", STATE, sheet -> sheet.type('1'));
        refused("type of none", ARGUMENT, sheet -> sheet.type((char) 31));
        refused("put a row", STATE, sheet -> sheet.put(0, ROW, NONE));
        refused("put a column", STATE, sheet -> sheet.put(0, COLUMN, NONE));
        refused("put a row elsewhere", STATE, sheet -> sheet.put(2, ROW, NONE));
        refused("put a column elsewhere", STATE, sheet -> sheet.put(1, COLUMN, NONE));
        refused("put a row behind none", INDEX, sheet -> sheet.put(0, ROW, 9));
        refused("put a column behind none", INDEX, sheet -> sheet.put(0, COLUMN, 5));
        refused("put of none behind none", ARGUMENT, sheet -> sheet.put(0, 2, 9));
        refused("put at none", ARGUMENT, sheet -> sheet.put(3, ROW, 9));
    }

    private void ofWornSheets() {
        refused("put", STATE, sheet -> sheet.put(0, ROW, NONE));
        refused("put behind none", INDEX, sheet -> sheet.put(0, ROW, 2));
        refused("put of none behind none", ARGUMENT, sheet -> sheet.put(0, 2, 2));
        refused("put at none behind none", ARGUMENT, sheet -> sheet.put(3, ROW, 2));
        refused("move", STATE, sheet -> sheet.move(0, ROW, 0, 1));
        refused("move of no line", INDEX, sheet -> sheet.move(0, ROW, 2, 1));
        refused("move behind no line", INDEX, sheet -> sheet.move(0, ROW, 1, 2));
        refused("move of none of no line", ARGUMENT, sheet -> sheet.move(0, 2, 2, 1));
        refused("move at none of no line", ARGUMENT, sheet -> sheet.move(3, ROW, 2, 1));
        refused("remove", STATE, sheet -> sheet.remove(0, ROW, 0));
        refused("remove of no line", INDEX, sheet -> sheet.remove(0, ROW, 2));
        refused("remove of none of no line", ARGUMENT, sheet -> sheet.remove(0, 2, 2));
        refused("remove at none of no line", ARGUMENT, sheet -> sheet.remove(3, ROW, 2));
        refused("enter", STATE, sheet -> sheet.enter(0, 0, 0));
        refused("enter into no row", INDEX, sheet -> sheet.enter(0, 2, 0));
        refused("enter into no column", INDEX, sheet -> sheet.enter(0, 0, 2));
        refused("enter at none into no row", ARGUMENT, sheet -> sheet.enter(3, 2, 0));
        refused("undo", STATE, sheet -> sheet.undo(0));
        refused("undo at none", ARGUMENT, sheet -> sheet.undo(3));
        refused("undo of none", UNSUPPORTED, sheet -> sheet.undo(1));
        refused("deliver a 41st act", ARGUMENT, sheet -> sheet.deliver(1, 0, 41));
    }

    /** All that a sheet tells, and what it tells when its offices go on and meet. */
    private static String told(OfficeSheet sheet) {
        StringBuilder text = new StringBuilder();
        tellOut(sheet, text);
        tellOffices(sheet, text);
        tellCells(sheet, text);
        tellDraft(sheet, text);
        goOn(sheet, text);
        return text.toString();
    }

    private static void tell(StringBuilder text, IntSupplier call) {
        try {
            text.append(call.getAsInt()).append(' ');
        } catch (RuntimeException e) {
            text.append(e.getClass().getSimpleName()).append(' ');
        }
    }

    private static void tellOut(OfficeSheet sheet, StringBuilder text) {
        for (int k = 0; k < 8; k++) {
            int at = k;
            tell(text, () -> sheet.out(at));
        }
    }

    private static void tellOffices(OfficeSheet sheet, StringBuilder text) {
        for (int office = 0; office < 3; office++) {
            for (int of = 0; of < 3; of++) {
                text.append(sheet.known(office, of)).append(' ');
            }
            text.append(sheet.waiting(office)).append(' ');
            text.append(Check.shown(sheet, office, ROW)).append(" / ");
            text.append(Check.shown(sheet, office, COLUMN)).append('\n');
        }
    }

    private static void tellCells(OfficeSheet sheet, StringBuilder text) {
        for (int office = 0; office < 3; office++) {
            for (int cell = 0; cell < 4; cell++) {
                int here = office;
                int row = cell / 2;
                int column = cell % 2;
                tell(text, () -> sheet.value(here, row, column));
                tell(text, () -> sheet.error(here, row, column));
                tell(text, () -> sheet.also(here, row, column));
                tell(text, () -> sheet.print(here, row, column));
                tell(text, () -> sheet.out(0));
            }
        }
    }

    /** How long the draft is, and what: a 9 goes behind it, and it is entered. */
    private static void tellDraft(OfficeSheet sheet, StringBuilder text) {
        tell(text, () -> sheet.type('9'));
        tell(text, () -> sheet.enter(2, 0, 0));
        tell(text, () -> sheet.value(2, 0, 0));
        tell(text, () -> sheet.print(2, 0, 0));
        tellOut(sheet, text);
    }

    /** The order of the rows that come or go now tells the stamps, and what is undone the latest acts. */
    private static void goOn(OfficeSheet sheet, StringBuilder text) {
        for (int n = 0; n < 6; n++) {
            int here = n / 2;
            tell(text, () -> sheet.put(here, ROW, NONE));
        }
        Check.meet(sheet);
        text.append(Check.shown(sheet, 1, ROW)).append('\n');
        // Of nine rows each office takes two others to the beginning.
        for (int n = 0; n < 6; n++) {
            int here = n / 2;
            tell(text, () -> {
                sheet.move(here, ROW, sheet.lines(here, ROW) - 1 - 3 * here, NONE);
                return 0;
            });
        }
        Check.meet(sheet);
        text.append(Check.shown(sheet, 1, ROW)).append('\n');
        for (int office = 0; office < 3; office++) {
            int here = office;
            tell(text, () -> sheet.undo(here) ? 1 : 0);
        }
        Check.meet(sheet);
        text.append(Check.shown(sheet, 2, ROW)).append(" / ").append(Check.shown(sheet, 2, COLUMN));
    }
}
