/** Promises 4 (put), 5 (move), 6 (remove), 12 (lines), 13 (line). */
public final class LinesTest {
    private static final int NONE = OfficeSheet.NONE;
    private static final int ROW = 0;
    private static final int COLUMN = 1;

    public static void main(String[] args) {
        putTellsTheLine();
        putStandsBehind();
        putRefuses();
        putRefusesFullSheets();
        moreLinesThanOneOfficeMayPut();
        placesWithGreaterStampsComeFirst();
        placesGoWithThoseThatTheyAreAfter();
        moveGoesBehind();
        moveLeavesPlacesBehind();
        latestMoveCounts();
        moveRefuses();
        removeShowsNoMore();
        removeAndMoveAreApart();
        removeRefuses();
        fortyActs();
        linesRefuse();
        Check.end();
    }

    private static void putTellsTheLine() {
        OfficeSheet sheet = new OfficeSheet();
        Check.due("first line of office 0", sheet.put(0, ROW, NONE), 1);
        Check.due("second line of office 0", sheet.put(0, COLUMN, NONE), 2);
        Check.due("first line of office 2", sheet.put(2, COLUMN, NONE), 201);
        sheet.remove(2, COLUMN, 0);
        Check.due("a line is told by its act's number", sheet.put(2, ROW, NONE), 203);
        Check.due("first line of office 1", sheet.put(1, ROW, NONE), 101);
        Check.due("known of itself at once", sheet.known(0, 0), 2);
    }

    private static void putStandsBehind() {
        OfficeSheet sheet = new OfficeSheet();
        sheet.put(0, ROW, NONE);
        sheet.put(0, ROW, NONE);
        sheet.put(0, ROW, 0);
        sheet.put(0, ROW, 2);
        sheet.put(0, ROW, 0);
        Check.due("rows", Check.shown(sheet, 0, ROW), "2 5 3 1 4");
        Check.due("how many rows", sheet.lines(0, ROW), 5);
        Check.due("no columns", sheet.lines(0, COLUMN), 0);
        Check.due("nothing elsewhere", sheet.lines(1, ROW), 0);
        Check.due("line 3", sheet.line(0, ROW, 3), 1);
    }

    private static void putRefuses() {
        OfficeSheet sheet = Check.sheet(2, 1);
        Check.argument("put at office -1", () -> sheet.put(-1, ROW, NONE));
        Check.argument("put at office 3", () -> sheet.put(3, ROW, NONE));
        Check.argument("put of kind -1", () -> sheet.put(0, -1, NONE));
        Check.argument("put of kind 2", () -> sheet.put(0, 2, NONE));
        Check.argument("the office goes before the line", () -> sheet.put(3, ROW, 9));
        Check.index("put behind row 2", () -> sheet.put(0, ROW, 2));
        Check.index("put behind row -2", () -> sheet.put(0, ROW, -2));
        Check.index("put behind column 1", () -> sheet.put(0, COLUMN, 1));
        Check.index("put behind another office's row", () -> sheet.put(1, ROW, 0));
        Check.due("refused puts change nothing", Check.shown(sheet, 0, ROW), "1 2");
        Check.due("refused puts are no acts", sheet.known(0, 0), 3);
    }

    private static void putRefusesFullSheets() {
        OfficeSheet sheet = Check.sheet(9, 5);
        Check.state("a tenth row", () -> sheet.put(0, ROW, NONE));
        Check.state("a sixth column", () -> sheet.put(0, COLUMN, 4));
        Check.index("the line goes before the fullness", () -> sheet.put(0, COLUMN, 5));
        sheet.remove(0, ROW, 3);
        Check.due("a removed row makes room", sheet.put(0, ROW, NONE), 16);
        Check.state("full of rows again", () -> sheet.put(0, ROW, NONE));
        sheet.remove(0, COLUMN, 0);
        Check.due("a removed column makes room", sheet.put(0, COLUMN, 3), 18);
        Check.state("full of columns again", () -> sheet.put(0, COLUMN, NONE));
        Check.due("no act more", sheet.known(0, 0), 18);
    }

    private static void moreLinesThanOneOfficeMayPut() {
        OfficeSheet sheet = new OfficeSheet();
        for (int office = 0; office < 2; office++) {
            for (int i = 0; i < 4; i++) {
                sheet.put(office, COLUMN, NONE);
            }
        }
        Check.deliverAll(sheet, 1, 0);
        Check.due("columns of two offices", Check.shown(sheet, 1, COLUMN), "104 4 103 3 102 2 101 1");
        Check.state("shows more than 5", () -> sheet.put(1, COLUMN, NONE));
        Check.due("columns may still be moved", move(sheet, 1, COLUMN, 7, NONE), "1 104 4 103 3 102 2 101");
    }

    private static String move(OfficeSheet sheet, int office, int kind, int i, int after) {
        sheet.move(office, kind, i, after);
        return Check.shown(sheet, office, kind);
    }

    private static void placesWithGreaterStampsComeFirst() {
        OfficeSheet sheet = Check.sheet(1, 0);
        Check.meet(sheet);
        sheet.put(2, ROW, 0);
        sheet.put(1, ROW, 0);
        sheet.put(0, ROW, 0);
        sheet.put(0, ROW, 0);
        Check.meet(sheet);
        for (int office = 0; office < 3; office++) {
            Check.due("by number, then by maker", Check.shown(sheet, office, ROW), "1 3 201 101 2");
        }
    }

    private static void placesGoWithThoseThatTheyAreAfter() {
        OfficeSheet sheet = Check.sheet(1, 0);
        Check.meet(sheet);
        sheet.put(0, ROW, 0);
        sheet.put(0, ROW, 1);
        sheet.put(0, ROW, 2);
        sheet.put(1, ROW, 0);
        sheet.put(1, ROW, 1);
        sheet.put(2, ROW, NONE);
        sheet.put(2, ROW, 0);
        Check.meet(sheet);
        for (int office = 0; office < 3; office++) {
            Check.due("runs stay together", Check.shown(sheet, office, ROW), "201 202 1 101 102 2 3 4");
        }
    }

    private static void moveGoesBehind() {
        OfficeSheet sheet = Check.sheet(4, 0);
        Check.due("to the beginning", move(sheet, 0, ROW, 2, NONE), "3 1 2 4");
        Check.due("to the end", move(sheet, 0, ROW, 0, 3), "1 2 4 3");
        Check.due("behind itself", move(sheet, 0, ROW, 1, 1), "1 2 4 3");
        Check.due("behind the one before", move(sheet, 0, ROW, 2, 1), "1 2 4 3");
        Check.due("one further", move(sheet, 0, ROW, 0, 1), "2 1 4 3");
        Check.due("moves are acts", sheet.known(0, 0), 9);
    }

    private static void moveLeavesPlacesBehind() {
        OfficeSheet sheet = Check.sheet(2, 0);
        Check.meet(sheet);
        sheet.move(0, ROW, 0, 1);
        Check.due("moved", Check.shown(sheet, 0, ROW), "2 1");
        sheet.put(1, ROW, 0);
        Check.due("put behind the old place", Check.shown(sheet, 1, ROW), "1 101 2");
        Check.meet(sheet);
        Check.due("it stays at the old place", Check.shown(sheet, 0, ROW), "101 2 1");
        Check.due("and likewise at the other", Check.shown(sheet, 1, ROW), "101 2 1");
    }

    private static void latestMoveCounts() {
        OfficeSheet sheet = Check.sheet(3, 0);
        Check.meet(sheet);
        sheet.move(0, ROW, 0, 2);
        sheet.move(1, ROW, 0, 1);
        Check.meet(sheet);
        for (int office = 0; office < 3; office++) {
            Check.due("the greater maker's", Check.shown(sheet, office, ROW), "2 1 3");
        }
        sheet.put(2, COLUMN, NONE);
        sheet.move(2, ROW, 1, NONE);
        sheet.move(1, ROW, 1, 2);
        Check.meet(sheet);
        for (int office = 0; office < 3; office++) {
            Check.due("the greater number's", Check.shown(sheet, office, ROW), "1 2 3");
        }
    }

    private static void moveRefuses() {
        OfficeSheet sheet = Check.sheet(2, 1);
        Check.argument("move at office 3", () -> sheet.move(3, ROW, 0, 0));
        Check.argument("move at office -1", () -> sheet.move(-1, ROW, 0, 0));
        Check.argument("move of kind 2", () -> sheet.move(0, 2, 0, 0));
        Check.argument("the kind goes before the line", () -> sheet.move(0, -1, 7, 7));
        Check.index("move of row 2", () -> sheet.move(0, ROW, 2, 0));
        Check.index("move of row -1", () -> sheet.move(0, ROW, -1, 0));
        Check.index("move behind row 2", () -> sheet.move(0, ROW, 0, 2));
        Check.index("move behind row -2", () -> sheet.move(0, ROW, 0, -2));
        Check.index("move of column 1", () -> sheet.move(0, COLUMN, 1, 0));
        Check.due("refused moves are no acts", sheet.known(0, 0), 3);
        Check.due("refused moves change nothing", Check.shown(sheet, 0, ROW), "1 2");
        OfficeSheet full = Check.sheet(9, 0);
        Check.due("a full sheet may be moved", move(full, 0, ROW, 8, NONE), "9 1 2 3 4 5 6 7 8");
    }

    private static void removeShowsNoMore() {
        OfficeSheet sheet = Check.sheet(3, 2);
        sheet.remove(0, ROW, 1);
        Check.due("rows", Check.shown(sheet, 0, ROW), "1 3");
        sheet.remove(0, COLUMN, 0);
        Check.due("columns", Check.shown(sheet, 0, COLUMN), "5");
        sheet.put(0, ROW, 0);
        Check.due("behind the one shown", Check.shown(sheet, 0, ROW), "1 8 3");
        sheet.remove(0, ROW, 0);
        sheet.remove(0, ROW, 0);
        sheet.remove(0, ROW, 0);
        Check.due("no rows", sheet.lines(0, ROW), 0);
        Check.index("no row 0", () -> sheet.line(0, ROW, 0));
    }

    private static void removeAndMoveAreApart() {
        OfficeSheet sheet = Check.sheet(3, 0);
        Check.meet(sheet);
        sheet.remove(0, ROW, 0);
        sheet.move(1, ROW, 0, 2);
        sheet.move(1, ROW, 1, NONE);
        Check.meet(sheet);
        Check.due("a later move brings no line back", Check.shown(sheet, 0, ROW), "3 2");
        sheet.undo(0);
        Check.due("back where it was moved to", Check.shown(sheet, 0, ROW), "3 2 1");
    }

    private static void removeRefuses() {
        OfficeSheet sheet = Check.sheet(2, 1);
        Check.argument("remove at office 3", () -> sheet.remove(3, ROW, 0));
        Check.argument("remove of kind 2", () -> sheet.remove(0, 2, 0));
        Check.argument("remove of kind -1", () -> sheet.remove(0, -1, 5));
        Check.index("remove of row 2", () -> sheet.remove(0, ROW, 2));
        Check.index("remove of row -1", () -> sheet.remove(0, ROW, NONE));
        Check.index("remove of column 1", () -> sheet.remove(0, COLUMN, 1));
        Check.index("remove where nothing came", () -> sheet.remove(1, ROW, 0));
        Check.due("refused removes are no acts", sheet.known(0, 0), 3);
    }

    private static void fortyActs() {
        OfficeSheet sheet = Check.sheet(2, 1);
        for (int n = 3; n < 40; n++) {
            sheet.move(0, ROW, 0, 1);
        }
        Check.due("forty acts", sheet.known(0, 0), 40);
        String before = Check.shown(sheet, 0, ROW);
        Check.state("a 41st put", () -> sheet.put(0, ROW, NONE));
        Check.state("a 41st move", () -> sheet.move(0, ROW, 0, 1));
        Check.state("a 41st remove", () -> sheet.remove(0, ROW, 0));
        Check.index("put: the line goes first", () -> sheet.put(0, ROW, 2));
        Check.index("move: the line goes first", () -> sheet.move(0, ROW, 0, 2));
        Check.index("remove: the line goes first", () -> sheet.remove(0, ROW, 2));
        Check.argument("remove: the office goes first", () -> sheet.remove(4, ROW, 2));
        Check.due("nothing is changed", Check.shown(sheet, 0, ROW), before);
        Check.due("others may act", sheet.put(1, ROW, NONE), 101);
    }

    private static void linesRefuse() {
        OfficeSheet sheet = Check.sheet(2, 1);
        Check.argument("lines at office 3", () -> sheet.lines(3, ROW));
        Check.argument("lines at office -1", () -> sheet.lines(-1, ROW));
        Check.argument("lines of kind 2", () -> sheet.lines(0, 2));
        Check.argument("line at office 3", () -> sheet.line(3, ROW, 0));
        Check.argument("line of kind -1", () -> sheet.line(0, -1, 0));
        Check.argument("line: the kind goes first", () -> sheet.line(0, 2, 9));
        Check.index("line 2", () -> sheet.line(0, ROW, 2));
        Check.index("line -1", () -> sheet.line(0, ROW, NONE));
        Check.index("column 1", () -> sheet.line(0, COLUMN, 1));
        Check.index("the greatest int", () -> sheet.line(0, COLUMN, Integer.MAX_VALUE));
    }
}
