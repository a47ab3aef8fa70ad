/** Promises 9 (deliver), 10 (known), 11 (waiting). */
public final class DeliverTest {
    private static final int NONE = OfficeSheet.NONE;
    private static final int ROW = 0;

    public static void main(String[] args) {
        inOrder();
        backwards();
        pastOfThirdOffice();
        severalWaiting();
        stampsGoOnFromWhatWasTaken();
        pastIsWhatWasTakenThen();
        waitingActsAreNotTaken();
        allFortyBackwards();
        refuses();
        Check.end();
    }

    private static void inOrder() {
        OfficeSheet sheet = Check.sheet(3, 0);
        for (int n = 1; n <= 3; n++) {
            Check.due("deliver " + n, sheet.deliver(1, 0, n), 1);
            Check.due("again " + n, sheet.deliver(1, 0, n), 0);
            Check.due("known", sheet.known(1, 0), n);
            Check.due("waiting", sheet.waiting(1), 0);
        }
        Check.due("not at office 2", sheet.known(2, 0), 0);
        Check.due("rows", Check.shown(sheet, 1, ROW), "1 2 3");
        Check.due("none of its own", sheet.known(1, 1), 0);
        Check.due("office 0 knows its own", sheet.known(0, 0), 3);
    }

    private static void backwards() {
        OfficeSheet sheet = Check.sheet(3, 0);
        Check.due("third first", sheet.deliver(2, 0, 3), 2);
        Check.due("third again", sheet.deliver(2, 0, 3), 0);
        Check.due("second", sheet.deliver(2, 0, 2), 2);
        Check.due("waiting", sheet.waiting(2), 2);
        Check.due("known", sheet.known(2, 0), 0);
        Check.due("rows", sheet.lines(2, ROW), 0);
        Check.due("first", sheet.deliver(2, 0, 1), 1);
        Check.due("none waits", sheet.waiting(2), 0);
        Check.due("all known", sheet.known(2, 0), 3);
        Check.due("all rows", Check.shown(sheet, 2, ROW), "1 2 3");
        Check.due("third once more", sheet.deliver(2, 0, 3), 0);
    }

    private static void pastOfThirdOffice() {
        OfficeSheet sheet = Check.sheet(1, 0);
        sheet.deliver(1, 0, 1);
        sheet.put(1, ROW, 0);
        Check.due("its past is not there", sheet.deliver(2, 1, 1), 2);
        Check.due("so it is not known", sheet.known(2, 1), 0);
        Check.due("its past comes", sheet.deliver(2, 0, 1), 1);
        Check.due("so it is", sheet.known(2, 1), 1);
        Check.due("rows", Check.shown(sheet, 2, ROW), "1 101");
        Check.due("its maker's past is there", sheet.deliver(0, 1, 1), 1);
    }

    private static void severalWaiting() {
        OfficeSheet sheet = Check.sheet(1, 0);
        sheet.deliver(1, 0, 1);
        sheet.put(1, ROW, 0);
        sheet.deliver(0, 1, 1);
        sheet.put(0, ROW, 1);
        sheet.deliver(1, 0, 2);
        sheet.put(1, ROW, 2);
        sheet.put(1, ROW, 3);
        Check.due("1, 3", sheet.deliver(2, 1, 3), 2);
        Check.due("0, 2", sheet.deliver(2, 0, 2), 2);
        Check.due("1, 2", sheet.deliver(2, 1, 2), 2);
        Check.due("three wait", sheet.waiting(2), 3);
        Check.due("0, 1 is taken alone", sheet.deliver(2, 0, 1), 1);
        Check.due("three wait still", sheet.waiting(2), 3);
        Check.due("1, 1 brings all", sheet.deliver(2, 1, 1), 1);
        Check.due("none waits", sheet.waiting(2), 0);
        Check.due("rows", Check.shown(sheet, 2, ROW), "1 101 2 102 103");
        Check.due("known of 0", sheet.known(2, 0), 2);
        Check.due("known of 1", sheet.known(2, 1), 3);
        Check.due("nothing waits elsewhere", sheet.waiting(0) + sheet.waiting(1), 0);
    }

    private static void stampsGoOnFromWhatWasTaken() {
        OfficeSheet sheet = Check.sheet(5, 0);
        sheet.put(1, ROW, NONE);
        sheet.put(2, ROW, NONE);
        Check.deliverAll(sheet, 2, 0);
        sheet.put(2, ROW, NONE);
        Check.meet(sheet);
        for (int office = 0; office < 3; office++) {
            Check.due("202 has the greatest stamp", Check.shown(sheet, office, ROW), "202 201 101 1 2 3 4 5");
        }
    }

    private static void pastIsWhatWasTakenThen() {
        OfficeSheet sheet = Check.sheet(1, 0);
        sheet.put(1, ROW, NONE);
        sheet.deliver(1, 0, 1);
        Check.due("an act before the delivery has not got it in its past", sheet.deliver(2, 1, 1), 1);
        sheet.put(1, ROW, NONE);
        Check.due("one behind it has", sheet.deliver(2, 1, 2), 2);
    }

    private static void waitingActsAreNotTaken() {
        OfficeSheet sheet = Check.sheet(2, 1);
        sheet.deliver(1, 0, 2);
        sheet.put(1, ROW, NONE);
        Check.due("a waiting act is in no past", sheet.deliver(2, 1, 1), 1);
        Check.due("and not known", sheet.known(1, 0), 0);
        sheet.deliver(1, 0, 1);
        Check.due("its stamp does not count before", Check.shown(sheet, 1, ROW), "101 1 2");
    }

    private static void allFortyBackwards() {
        OfficeSheet sheet = Check.sheet(2, 0);
        for (int n = 2; n < 40; n++) {
            sheet.move(0, ROW, 0, 1);
        }
        for (int n = 40; n > 1; n--) {
            Check.due("waits " + n, sheet.deliver(1, 0, n), 2);
            Check.due("waiting", sheet.waiting(1), 41 - n);
        }
        Check.due("the first brings all", sheet.deliver(1, 0, 1), 1);
        Check.due("known", sheet.known(1, 0), 40);
        Check.due("waiting", sheet.waiting(1), 0);
        Check.due("rows", Check.shown(sheet, 1, ROW), Check.shown(sheet, 0, ROW));
    }

    private static void refuses() {
        OfficeSheet sheet = Check.sheet(2, 0);
        Check.argument("to office 3", () -> sheet.deliver(3, 0, 1));
        Check.argument("to office -1", () -> sheet.deliver(-1, 0, 1));
        Check.argument("from office 3", () -> sheet.deliver(0, 3, 1));
        Check.argument("from office -1", () -> sheet.deliver(1, -1, 1));
        Check.argument("to itself", () -> sheet.deliver(0, 0, 1));
        Check.argument("act 0", () -> sheet.deliver(1, 0, 0));
        Check.argument("act -1", () -> sheet.deliver(1, 0, -1));
        Check.argument("act 3", () -> sheet.deliver(1, 0, 3));
        Check.argument("act 41", () -> sheet.deliver(1, 0, 41));
        Check.argument("the greatest act", () -> sheet.deliver(1, 0, Integer.MAX_VALUE));
        Check.argument("of an office without acts", () -> sheet.deliver(0, 1, 1));
        Check.argument("known at office 3", () -> sheet.known(3, 0));
        Check.argument("known at office -1", () -> sheet.known(-1, 0));
        Check.argument("known of office 3", () -> sheet.known(0, 3));
        Check.argument("known of office -1", () -> sheet.known(0, -1));
        Check.argument("waiting at office 3", () -> sheet.waiting(3));
        Check.argument("waiting at office -1", () -> sheet.waiting(-1));
        Check.due("nothing came", sheet.known(1, 0) + sheet.waiting(1), 0);
        Check.due("the same act still comes", sheet.deliver(1, 0, 1), 1);
    }
}
