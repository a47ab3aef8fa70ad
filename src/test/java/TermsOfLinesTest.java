/** Terms: lines, places and their order. Each test is of the sentence that its comment tells. */
public final class TermsOfLinesTest {
    private static final int NONE = OfficeSheet.NONE;
    private static final int ROW = 0;
    private static final int COLUMN = 1;

    public static void main(String[] args) {
        atFirstNone();
        toldByMakerAndNumber();
        placesOfAKind();
        afterTheBeginning();
        behindTheOneAfterWhichItIs();
        withEachGoAllThatAreAfterIt();
        greaterStampsComeFirst();
        afterThePlaceOfALineThatIsGone();
        afterAPlaceThatItsLineLeft();
        latestOfThePlace();
        latestOfTheBeingThere();
        placeAndBeingThereAreApart();
        amongThoseThatTheOfficeHasTaken();
        shownFromZeroOn();
        putMakesALineAndAPlace();
        moveMakesAPlace();
        backHasAnEarlierPlace();
        thereOrGone();
        contentsAreOfThreeKinds();
        cellsAreOfLines();
        latestWriteIsHeld();
        nothingIfThereWasNoWrite();
        Check.end();
    }

    private static void atAll(OfficeSheet sheet, int kind, String what, String want) {
        for (int office = 0; office < 3; office++) {
            Check.due(what + " at office " + office, Check.shown(sheet, office, kind), want);
        }
    }

    /** "LINES are ROWS (kind 0) and COLUMNS (kind 1), at first none" */
    private static void atFirstNone() {
        OfficeSheet sheet = new OfficeSheet();
        for (int office = 0; office < 3; office++) {
            Check.due("rows", sheet.lines(office, ROW), 0);
            Check.due("columns", sheet.lines(office, COLUMN), 0);
        }
        Check.index("no row to put behind", () -> sheet.put(0, ROW, 0));
        Check.index("no column to move", () -> sheet.move(0, COLUMN, 0, NONE));
        Check.index("no row to remove", () -> sheet.remove(0, ROW, 0));
        Check.index("no cell", () -> sheet.enter(0, 0, 0));
    }

    /** "a line is made by an act, and is told as 100 * maker + the act's number" */
    private static void toldByMakerAndNumber() {
        OfficeSheet sheet = new OfficeSheet();
        for (int office = 0; office < 3; office++) {
            Check.due("the first", sheet.put(office, ROW, NONE), 100 * office + 1);
            for (int n = 2; n < 40; n++) {
                sheet.move(office, ROW, 0, 0);
            }
            Check.due("the 40th", sheet.put(office, COLUMN, NONE), 100 * office + 40);
        }
        Check.deliverAll(sheet, 1, 2);
        Check.due("elsewhere as well", Check.shown(sheet, 1, COLUMN), "240 140");
    }

    /** "PLACES of a kind are a tree: .. each AFTER another place of that kind or after the beginning" */
    private static void placesOfAKind() {
        OfficeSheet sheet = Check.sheet(3, 0);
        Check.index("rows are nothing to put a column behind", () -> sheet.put(0, COLUMN, 0));
        sheet.put(0, COLUMN, NONE);
        sheet.put(0, COLUMN, 0);
        Check.due("columns", Check.shown(sheet, 0, COLUMN), "4 5");
        sheet.move(0, ROW, 2, NONE);
        Check.due("moved rows leave them", Check.shown(sheet, 0, COLUMN), "4 5");
        sheet.remove(0, COLUMN, 0);
        Check.due("removed columns leave the rows", Check.shown(sheet, 0, ROW), "3 1 2");
        Check.index("column 1 is no more", () -> sheet.move(0, COLUMN, 1, NONE));
    }

    /** "each AFTER another place of that kind or after the beginning" */
    private static void afterTheBeginning() {
        OfficeSheet sheet = Check.sheet(2, 0);
        Check.due("put", sheet.put(0, ROW, NONE), 3);
        Check.due("before all", Check.shown(sheet, 0, ROW), "3 1 2");
        sheet.move(0, ROW, 0, NONE);
        Check.due("the first there again", Check.shown(sheet, 0, ROW), "3 1 2");
        sheet.move(0, ROW, 2, NONE);
        Check.due("the last there", Check.shown(sheet, 0, ROW), "2 3 1");
    }

    /** "In the ORDER of places each one stands behind the one after which it is (or the beginning)" */
    private static void behindTheOneAfterWhichItIs() {
        OfficeSheet sheet = Check.sheet(3, 0);
        sheet.put(0, ROW, 0);
        Check.due("behind the first", Check.shown(sheet, 0, ROW), "1 4 2 3");
        sheet.put(0, ROW, 3);
        Check.due("behind the last", Check.shown(sheet, 0, ROW), "1 4 2 3 5");
        sheet.move(0, ROW, 4, 1);
        Check.due("behind one between", Check.shown(sheet, 0, ROW), "1 4 5 2 3");
    }

    /** "and with each one go all that are after it or after one of these" */
    private static void withEachGoAllThatAreAfterIt() {
        OfficeSheet sheet = new OfficeSheet();
        sheet.put(0, ROW, NONE);
        sheet.put(0, ROW, 0);
        sheet.put(0, ROW, 1);
        sheet.put(1, ROW, NONE);
        sheet.put(1, ROW, 0);
        sheet.put(1, ROW, 1);
        sheet.put(2, ROW, NONE);
        sheet.put(2, ROW, NONE);
        Check.meet(sheet);
        atAll(sheet, ROW, "rows stay with the first of theirs, though their stamps are greater",
                "202 201 101 102 103 1 2 3");
    }

    /** "of places that are after the same one those with greater stamps come first" */
    private static void greaterStampsComeFirst() {
        OfficeSheet sheet = Check.sheet(2, 0);
        Check.meet(sheet);
        sheet.put(0, ROW, 0);
        sheet.put(0, ROW, 0);
        sheet.put(1, ROW, 0);
        sheet.put(2, ROW, 0);
        sheet.deliver(2, 1, 1);
        sheet.put(2, ROW, 0);
        Check.meet(sheet);
        atAll(sheet, ROW, "after the same one", "1 202 4 201 101 3 2");
    }

    /** "each one stands behind the one after which it is": whether that one's line is there or not */
    private static void afterThePlaceOfALineThatIsGone() {
        OfficeSheet sheet = Check.sheet(3, 0);
        Check.meet(sheet);
        sheet.remove(0, ROW, 1);
        sheet.put(1, ROW, 1);
        Check.meet(sheet);
        atAll(sheet, ROW, "behind a gone row", "1 101 3");
        sheet.undo(0);
        Check.due("which stands there again", Check.shown(sheet, 0, ROW), "1 2 101 3");
    }

    /** "each one stands behind the one after which it is": whether a line has that place still or not */
    private static void afterAPlaceThatItsLineLeft() {
        OfficeSheet sheet = Check.sheet(3, 0);
        Check.meet(sheet);
        sheet.move(0, ROW, 0, 2);
        sheet.put(1, ROW, 0);
        Check.meet(sheet);
        atAll(sheet, ROW, "behind the place of before", "101 2 3 1");
        sheet.put(0, ROW, 3);
        Check.due("behind the place of now", Check.shown(sheet, 0, ROW), "101 2 3 1 5");
        sheet.move(0, ROW, 3, NONE);
        Check.due("which stays when the line goes on", Check.shown(sheet, 0, ROW), "1 101 2 3 5");
    }

    /** "A line has a place .. as the latest act (by stamp) says that speaks of its place" */
    private static void latestOfThePlace() {
        OfficeSheet sheet = Check.sheet(3, 0);
        Check.meet(sheet);
        sheet.move(2, ROW, 0, 1);
        sheet.move(1, ROW, 0, 2);
        sheet.undo(1);
        Check.due("office 1 has it back", Check.shown(sheet, 1, ROW), "1 2 3");
        Check.meet(sheet);
        atAll(sheet, ROW, "a later BACK goes before a MOVE that comes after it", "1 2 3");
        sheet.move(0, ROW, 0, 2);
        sheet.deliver(1, 0, 4);
        sheet.move(1, ROW, 2, 0);
        sheet.deliver(2, 1, 3);
        Check.due("waits", sheet.waiting(2), 1);
        sheet.deliver(2, 0, 4);
        Check.due("the later MOVE", Check.shown(sheet, 2, ROW), "2 1 3");
    }

    /** "and is THERE or not, as the latest act (by stamp) says that speaks .. of its being there" */
    private static void latestOfTheBeingThere() {
        OfficeSheet sheet = Check.sheet(2, 0);
        Check.meet(sheet);
        sheet.remove(0, ROW, 0);
        sheet.remove(1, ROW, 0);
        sheet.undo(1);
        sheet.deliver(2, 1, 1);
        sheet.deliver(2, 1, 2);
        Check.due("there again", Check.shown(sheet, 2, ROW), "1 2");
        sheet.deliver(2, 0, 3);
        Check.due("an earlier GONE that comes later says nothing", Check.shown(sheet, 2, ROW), "1 2");
        sheet.undo(1);
        Check.meet(sheet);
        atAll(sheet, ROW, "a later GONE does", "2");
    }

    /** "as the latest act (by stamp) says that speaks of its place, or of its being there": each of one of them */
    private static void placeAndBeingThereAreApart() {
        OfficeSheet sheet = Check.sheet(2, 0);
        Check.meet(sheet);
        sheet.remove(0, ROW, 0);
        sheet.put(1, COLUMN, NONE);
        sheet.move(1, ROW, 0, 1);
        sheet.undo(1);
        Check.meet(sheet);
        atAll(sheet, ROW, "a later MOVE or BACK makes no line be there", "2");
        sheet.move(1, ROW, 0, 0);
        sheet.undo(0);
        Check.meet(sheet);
        atAll(sheet, ROW, "a later THERE leaves the line its place", "1 2");
    }

    /** "among those that the office has taken" */
    private static void amongThoseThatTheOfficeHasTaken() {
        OfficeSheet sheet = Check.sheet(2, 0);
        Check.meet(sheet);
        sheet.remove(0, ROW, 0);
        sheet.move(1, ROW, 0, 1);
        Check.due("office 0", Check.shown(sheet, 0, ROW), "2");
        Check.due("office 1", Check.shown(sheet, 1, ROW), "2 1");
        Check.due("office 2", Check.shown(sheet, 2, ROW), "1 2");
        Check.meet(sheet);
        atAll(sheet, ROW, "all have taken all", "2");
    }

    /** "SHOWS the lines that are there in the order of their places, as 0, 1, .." */
    private static void shownFromZeroOn() {
        OfficeSheet sheet = Check.sheet(4, 0);
        Check.due("0", sheet.line(0, ROW, 0), 1);
        Check.due("the last", sheet.line(0, ROW, 3), 4);
        Check.index("not behind it", () -> sheet.line(0, ROW, 4));
        Check.index("not before 0", () -> sheet.line(0, ROW, -1));
        sheet.remove(0, ROW, 0);
        Check.due("0 is the next one now", sheet.line(0, ROW, 0), 2);
        Check.index("there is one less", () -> sheet.line(0, ROW, 3));
        sheet.remove(0, ROW, 1);
        Check.due("no number is left out", Check.shown(sheet, 0, ROW), "2 4");
    }

    /** "PUT: makes a line of a kind and a place for it; it is there." */
    private static void putMakesALineAndAPlace() {
        OfficeSheet sheet = new OfficeSheet();
        Check.due("a row", sheet.put(0, ROW, NONE), 1);
        Check.due("of its kind", sheet.lines(0, ROW), 1);
        Check.due("and no column", sheet.lines(0, COLUMN), 0);
        Check.due("a column", sheet.put(0, COLUMN, NONE), 2);
        Check.due("of its kind", sheet.line(0, COLUMN, 0), 2);
        Check.due("and no row", sheet.lines(0, ROW), 1);
        Check.due("its place is one to put behind", sheet.put(0, ROW, 0), 3);
        Check.due("behind it", Check.shown(sheet, 0, ROW), "1 3");
        sheet.remove(0, ROW, 1);
        Check.due("a new line, not one that was there", sheet.put(0, ROW, 0), 5);
        Check.due("there", Check.shown(sheet, 0, ROW), "1 5");
    }

    /** "MOVE: makes a place for a line.": a new one, whose stamp is the act's */
    private static void moveMakesAPlace() {
        OfficeSheet sheet = Check.filled(3, 1, "A3 7");
        sheet.move(0, ROW, 2, 0);
        Check.due("no new line", Check.shown(sheet, 0, ROW), "1 3 2");
        Check.worth(sheet, "A2", 70000);
        sheet.move(0, ROW, 2, 0);
        Check.due("the latest place comes first", Check.shown(sheet, 0, ROW), "1 2 3");
        sheet.put(0, ROW, 1);
        sheet.move(0, ROW, 1, 2);
        Check.due("what was put after the place that it left stays", Check.shown(sheet, 0, ROW), "1 8 2 3");
    }

    /** "BACK: a line has an earlier place of it.": with its own stamp, not the act's */
    private static void backHasAnEarlierPlace() {
        OfficeSheet sheet = new OfficeSheet();
        sheet.put(0, ROW, NONE);
        sheet.put(0, ROW, NONE);
        sheet.move(0, ROW, 1, NONE);
        Check.due("moved to the beginning", Check.shown(sheet, 0, ROW), "1 2");
        sheet.undo(0);
        Check.due("a new place after the beginning would come first", Check.shown(sheet, 0, ROW), "2 1");
        sheet.undo(0);
        Check.due("the place of the MOVE is an earlier one now", Check.shown(sheet, 0, ROW), "1 2");
        Check.meet(sheet);
        atAll(sheet, ROW, "the same", "1 2");
    }

    /** "THERE, GONE: a line is there, or not.": all else of it stays */
    private static void thereOrGone() {
        OfficeSheet sheet = Check.filled(3, 1, "A2 7");
        sheet.remove(0, ROW, 1);
        Check.due("GONE", Check.shown(sheet, 0, ROW), "1 3");
        sheet.undo(0);
        Check.due("THERE, at its place", Check.shown(sheet, 0, ROW), "1 2 3");
        Check.worth(sheet, "A2", 70000);
        sheet.undo(0);
        Check.due("GONE", Check.shown(sheet, 0, ROW), "1 3");
        Check.meet(sheet);
        atAll(sheet, ROW, "gone", "1 3");
    }

    /** "a CONTENT: nothing, a number, or a formula" */
    private static void contentsAreOfThreeKinds() {
        OfficeSheet sheet = Check.filled(1, 2, "A1 7", "B1 =n(A1:A1)");
        Check.holds(sheet, "A1", "7");
        Check.fill(sheet, 0, "A1 =7");
        Check.holds(sheet, "A1", "=7");
        Check.worth(sheet, "B1", 10000);
        Check.fill(sheet, 0, "A1 ");
        Check.holds(sheet, "A1", "");
        Check.worth(sheet, "B1", 0);
        Check.fill(sheet, 0, "A1 0");
        Check.holds(sheet, "A1", "0");
        Check.worth(sheet, "B1", 10000);
    }

    /** "WRITE: a cell, which is a row and a column, has a CONTENT" */
    private static void cellsAreOfLines() {
        OfficeSheet sheet = Check.filled(2, 2, "A1 1", "B1 2", "A2 3", "B2 4");
        sheet.move(0, ROW, 0, 1);
        sheet.move(0, COLUMN, 0, 1);
        Check.worth(sheet, "A1", 40000);
        Check.worth(sheet, "B1", 30000);
        Check.worth(sheet, "A2", 20000);
        Check.worth(sheet, "B2", 10000);
        sheet.remove(0, ROW, 0);
        Check.worth(sheet, "A1", 20000);
        sheet.undo(0);
        Check.worth(sheet, "A1", 40000);
    }

    /** "A cell holds what the latest act that wrote it says (by stamp)" */
    private static void latestWriteIsHeld() {
        OfficeSheet sheet = Check.sheet(1, 1);
        Check.meet(sheet);
        Check.enter(sheet, 0, 0, 0, "1");
        Check.enter(sheet, 1, 0, 0, "2");
        Check.enter(sheet, 1, 0, 0, "");
        sheet.deliver(2, 1, 1);
        sheet.deliver(2, 1, 2);
        sheet.deliver(2, 0, 3);
        Check.due("a write of nothing may be the latest", sheet.print(2, 0, 0), 0);
        sheet.deliver(0, 1, 1);
        Check.due("of equal numbers the greater maker's", Check.printed(sheet, 0, 0, 0), "2");
    }

    /** "nothing, if there was none" */
    private static void nothingIfThereWasNoWrite() {
        OfficeSheet sheet = Check.filled(2, 2, "A1 1");
        Check.due("a cell that was never written", sheet.print(0, 1, 1), 0);
        Check.due("at an office that took no write", sheet.deliver(1, 0, 1), 1);
        sheet.deliver(1, 0, 2);
        sheet.deliver(1, 0, 3);
        Check.due("nothing", sheet.print(1, 0, 0), 0);
        Check.due("which is 0", sheet.value(1, 0, 0), 0);
    }
}
