/** Promise 16 (also). */
public final class AlsoTest {
    private static final int NONE = OfficeSheet.NONE;

    public static void main(String[] args) {
        oneAfterAnother();
        apart();
        aPastThatIsNotTheCountingOnes();
        anOvertakenRow();
        waitingWritesAreNotTaken();
        waitingWritesOvertakeNone();
        otherCells();
        undoIsAWrite();
        besidesTheOneThatCounts();
        firstActsAreWritesToo();
        writesOfNothing();
        goneAndThereAgain();
        refuses();
        Check.end();
    }

    private static void oneAfterAnother() {
        OfficeSheet sheet = Check.sheet(1, 1);
        Check.due("no writes", sheet.also(0, 0, 0), 0);
        Check.enter(sheet, 0, 0, 0, "1");
        Check.due("one write", sheet.also(0, 0, 0), 0);
        Check.enter(sheet, 0, 0, 0, "1");
        Check.due("two in a row", sheet.also(0, 0, 0), 0);
        Check.meet(sheet);
        Check.enter(sheet, 1, 0, 0, "2");
        Check.meet(sheet);
        Check.due("one that knew the others", sheet.also(0, 0, 0), 0);
    }

    private static void apart() {
        OfficeSheet sheet = Check.sheet(1, 1);
        Check.meet(sheet);
        for (int office = 0; office < 3; office++) {
            Check.enter(sheet, office, 0, 0, "1");
            Check.enter(sheet, office, 0, 0, "2");
        }
        Check.due("its own alone", sheet.also(0, 0, 0), 0);
        sheet.deliver(0, 1, 1);
        Check.due("one beside", sheet.also(0, 0, 0), 1);
        sheet.deliver(0, 1, 2);
        Check.due("its later one instead", sheet.also(0, 0, 0), 1);
        Check.meet(sheet);
        for (int office = 0; office < 3; office++) {
            Check.due("two beside", sheet.also(office, 0, 0), 2);
        }
        Check.enter(sheet, 1, 0, 0, "");
        Check.due("a write that knew all", sheet.also(1, 0, 0), 0);
        Check.due("which did not come", sheet.also(0, 0, 0), 2);
        sheet.deliver(0, 1, 3);
        Check.due("which came", sheet.also(0, 0, 0), 0);
    }

    /** Office 1 overtakes office 0's write, and office 2's, with a greater stamp, knows neither. */
    private static void aPastThatIsNotTheCountingOnes() {
        OfficeSheet sheet = Check.sheet(1, 1);
        Check.meet(sheet);
        Check.enter(sheet, 0, 0, 0, "1");
        sheet.deliver(1, 0, 3);
        Check.enter(sheet, 1, 0, 0, "2");
        for (int n = 0; n < 5; n++) {
            sheet.move(2, 0, 0, NONE);
        }
        Check.enter(sheet, 2, 0, 0, "3");
        Check.meet(sheet);
        for (int office = 0; office < 3; office++) {
            Check.due("office 2's counts", sheet.value(office, 0, 0), 30000);
            Check.due("office 1's is beside it", sheet.also(office, 0, 0), 1);
        }
    }

    private static void anOvertakenRow() {
        OfficeSheet sheet = Check.sheet(1, 1);
        Check.meet(sheet);
        Check.enter(sheet, 0, 0, 0, "1");
        Check.enter(sheet, 1, 0, 0, "2");
        sheet.deliver(2, 0, 3);
        Check.enter(sheet, 2, 0, 0, "3");
        sheet.deliver(0, 2, 1);
        Check.due("office 2's overtakes", sheet.also(0, 0, 0), 0);
        sheet.deliver(0, 1, 1);
        Check.due("office 1's is beside", sheet.also(0, 0, 0), 1);
        sheet.put(0, 0, NONE);
        Check.due("another act is no write", sheet.also(0, 1, 0), 1);
    }

    private static void waitingWritesAreNotTaken() {
        OfficeSheet sheet = Check.sheet(1, 1);
        Check.meet(sheet);
        Check.enter(sheet, 0, 0, 0, "1");
        sheet.put(1, 0, NONE);
        Check.enter(sheet, 1, 1, 0, "2");
        Check.due("waits", sheet.deliver(0, 1, 2), 2);
        Check.due("nothing beside", sheet.also(0, 0, 0), 0);
        sheet.deliver(0, 1, 1);
        Check.due("taken", sheet.also(0, 1, 0), 1);
    }

    private static void waitingWritesOvertakeNone() {
        OfficeSheet sheet = Check.sheet(1, 1);
        Check.meet(sheet);
        Check.enter(sheet, 0, 0, 0, "1");
        Check.enter(sheet, 1, 0, 0, "2");
        Check.deliverAll(sheet, 2, 0);
        Check.deliverAll(sheet, 2, 1);
        sheet.put(0, 0, 0);
        Check.enter(sheet, 0, 0, 0, "3");
        Check.due("waits", sheet.deliver(2, 0, 5), 2);
        Check.due("office 0's first is still beside", sheet.also(2, 0, 0), 1);
        Check.due("office 1's counts", sheet.value(2, 0, 0), 20000);
        sheet.deliver(2, 0, 4);
        Check.due("office 1's is beside now", sheet.also(2, 0, 0), 1);
        Check.due("office 0's second counts", sheet.value(2, 0, 0), 30000);
    }

    private static void otherCells() {
        OfficeSheet sheet = Check.sheet(2, 2);
        Check.meet(sheet);
        Check.enter(sheet, 0, 0, 1, "1");
        Check.enter(sheet, 1, 1, 0, "2");
        Check.enter(sheet, 2, 1, 1, "3");
        Check.meet(sheet);
        for (int cell = 0; cell < 4; cell++) {
            Check.due("each cell by itself", sheet.also(0, cell / 2, cell % 2), 0);
        }
    }

    private static void undoIsAWrite() {
        OfficeSheet sheet = Check.sheet(1, 1);
        Check.meet(sheet);
        Check.enter(sheet, 0, 0, 0, "1");
        Check.enter(sheet, 2, 0, 0, "2");
        Check.meet(sheet);
        Check.due("beside", sheet.also(2, 0, 0), 1);
        sheet.undo(2);
        Check.due("the undo knew both", sheet.also(2, 0, 0), 0);
        Check.due("and nothing is held", sheet.print(2, 0, 0), 0);
    }

    /** "besides the one that counts" */
    private static void besidesTheOneThatCounts() {
        OfficeSheet sheet = Check.sheet(1, 1);
        Check.meet(sheet);
        Check.enter(sheet, 0, 0, 0, "1");
        Check.due("one write, which counts", sheet.also(0, 0, 0), 0);
        Check.enter(sheet, 1, 0, 0, "2");
        Check.enter(sheet, 2, 0, 0, "3");
        sheet.deliver(0, 2, 1);
        Check.due("two writes, one counts", sheet.also(0, 0, 0), 1);
        sheet.deliver(0, 1, 1);
        Check.due("three writes, one counts", sheet.also(0, 0, 0), 2);
        Check.enter(sheet, 0, 0, 0, "4");
        Check.due("one after all of them", sheet.also(0, 0, 0), 0);
        Check.due("elsewhere nothing came", sheet.also(1, 0, 0), 0);
        sheet.deliver(1, 0, 3);
        Check.due("one beside", sheet.also(1, 0, 0), 1);
        Check.due("the last waits for another one's", sheet.deliver(1, 0, 4), 2);
        Check.due("one beside still", sheet.also(1, 0, 0), 1);
        sheet.deliver(1, 2, 1);
        Check.due("all came", sheet.also(1, 0, 0), 0);
    }

    /** "How many writes of a cell": also those that are the first acts of their makers */
    private static void firstActsAreWritesToo() {
        for (int maker = 0; maker < 3; maker++) {
            int other = (maker + 1) % 3;
            int third = (maker + 2) % 3;
            OfficeSheet sheet = new OfficeSheet();
            sheet.put(other, 0, NONE);
            sheet.put(other, 1, NONE);
            Check.meet(sheet);
            Check.enter(sheet, maker, 0, 0, "1");
            Check.enter(sheet, other, 0, 0, "2");
            Check.enter(sheet, other, 0, 0, "3");
            Check.meet(sheet);
            Check.due("the first of office " + maker + " is beside", sheet.also(third, 0, 0), 1);
            OfficeSheet later = new OfficeSheet();
            later.put(other, 0, NONE);
            later.put(other, 1, NONE);
            Check.meet(later);
            Check.enter(later, third, 0, 0, "2");
            Check.enter(later, other, 0, 0, "1");
            Check.deliverAll(later, maker, other);
            Check.enter(later, maker, 0, 0, "3");
            Check.meet(later);
            Check.due("it alone overtakes another", later.also(third, 0, 0), 1);
        }
    }

    /** "How many writes of a cell": also of nothing */
    private static void writesOfNothing() {
        OfficeSheet sheet = Check.sheet(1, 1);
        Check.meet(sheet);
        Check.enter(sheet, 0, 0, 0, "");
        Check.enter(sheet, 1, 0, 0, "");
        Check.meet(sheet);
        Check.due("one beside", sheet.also(2, 0, 0), 1);
        Check.due("a fault", Check.enter(sheet, 0, 0, 0, "="), 1);
        Check.due("is no write", sheet.also(0, 0, 0), 1);
    }

    private static void goneAndThereAgain() {
        OfficeSheet sheet = Check.sheet(1, 1);
        Check.meet(sheet);
        Check.enter(sheet, 0, 0, 0, "1");
        Check.enter(sheet, 1, 0, 0, "2");
        Check.meet(sheet);
        sheet.remove(0, 0, 0);
        Check.index("no such row", () -> sheet.also(0, 0, 0));
        sheet.undo(0);
        Check.due("the writes are of the row", sheet.also(0, 0, 0), 1);
    }

    private static void refuses() {
        OfficeSheet sheet = Check.sheet(2, 1);
        Check.argument("also at office 3", () -> sheet.also(3, 0, 0));
        Check.argument("also at office -1", () -> sheet.also(-1, 5, 5));
        Check.index("also in row 2", () -> sheet.also(0, 2, 0));
        Check.index("also in row -1", () -> sheet.also(0, NONE, 0));
        Check.index("also in column 1", () -> sheet.also(0, 0, 1));
        Check.index("also in column -1", () -> sheet.also(0, 0, NONE));
        Check.index("also where nothing came", () -> sheet.also(2, 0, 0));
    }
}
