/** The edges that the eighteen promises name, one after the other; each test is of what its comment tells. */
public final class PromisesTest {
    private static final int NONE = OfficeSheet.NONE;
    private static final int ROW = 0;
    private static final int COLUMN = 1;
    private static final int LEAST = Integer.MIN_VALUE;
    private static final int GREATEST = Integer.MAX_VALUE;

    public static void main(String[] args) {
        newObjectsAreEmpty();
        newObjectsAreApart();
        typeFrom32To126();
        typeUpToTwenty();
        cutKeepsTheFirst();
        cutWithinTheDraft();
        putBehindOneOrTheBeginning();
        putBehindNoOther();
        putUpToNineRows();
        putUpToFiveColumns();
        putCountsWhatTheOfficeShows();
        putWhenMoreAreShown();
        moveAlsoBehindItself();
        moveOfNoLine();
        moveWhenFull();
        removeTheLastOne();
        removeOfNoLine();
        enterNothing();
        enterTellsTheFault();
        enterKeepsTheDraft();
        enterIntoNoCell();
        deliverOnceTwiceAndEarly();
        deliverNoAct();
        knownOfItselfAndOthers();
        waitingUpToAll();
        linesShown();
        lineShown();
        valueIsZeroWithAnError();
        cellsThatAreNotThere();
        printBecomesOut();
        outOfItsCharacters();
        Check.end();
    }

    /** Promise 1: "No acts, the draft and OUT are empty." */
    private static void newObjectsAreEmpty() {
        OfficeSheet sheet = new OfficeSheet();
        for (int office = 0; office < 3; office++) {
            int here = office;
            Check.throwing("no act", UnsupportedOperationException.class, () -> sheet.undo(here));
            for (int of = 0; of < 3; of++) {
                Check.due("no act is known", sheet.known(office, of), 0);
            }
            Check.due("none waits", sheet.waiting(office), 0);
        }
        sheet.cut(0);
        Check.argument("no character of the draft", () -> sheet.cut(1));
        Check.index("no character of OUT", () -> sheet.out(0));
        sheet.put(0, ROW, NONE);
        sheet.put(0, COLUMN, NONE);
        Check.due("the draft is nothing", sheet.enter(0, 0, 0), NONE);
        Check.due("so is the cell", sheet.print(0, 0, 0), 0);
    }

    /** Promise 1: "No acts, the draft and OUT are empty": whatever other objects have */
    private static void newObjectsAreApart() {
        OfficeSheet first = Check.filled(2, 2, "A1 =B1+5");
        first.print(0, 0, 0);
        OfficeSheet second = new OfficeSheet();
        Check.due("no rows", second.lines(0, ROW), 0);
        Check.argument("no draft", () -> second.cut(1));
        Check.index("no OUT", () -> second.out(0));
        second.put(0, ROW, NONE);
        second.type('9');
        Check.due("the first has its rows", first.lines(0, ROW), 2);
        Check.due("and its draft", first.type('0'), 6);
        Check.due("and its OUT", first.out(4), '5');
    }

    /** Promise 2: "IllegalArgumentException: c is not 32 .. 126" */
    private static void typeFrom32To126() {
        OfficeSheet sheet = new OfficeSheet();
        for (int c = 0; c < 400; c++) {
            char typed = (char) c;
            if (c < 32 || c > 126) {
                Check.argument("character " + c, () -> sheet.type(typed));
            } else {
                Check.due("character " + c, sheet.type(typed), 1);
                sheet.cut(0);
            }
        }
        for (int c = 1024; c <= 65535; c = 2 * c + 1) {
            char typed = (char) c;
            Check.argument("character " + c, () -> sheet.type(typed));
        }
        Check.argument("65535", () -> sheet.type((char) 65535));
        Check.argument("one whose low byte is a character", () -> sheet.type((char) (256 + '1')));
    }

    /** Promise 2: "how many it has"; "IllegalStateException: it has 20" */
    private static void typeUpToTwenty() {
        OfficeSheet sheet = new OfficeSheet();
        for (int n = 1; n <= 20; n++) {
            Check.due("so many", sheet.type('1'), n);
        }
        Check.state("one more", () -> sheet.type('1'));
        Check.state("and again", () -> sheet.type('1'));
        Check.argument("a wrong one goes first", () -> sheet.type((char) 127));
        sheet.cut(20);
        Check.state("still 20", () -> sheet.type(' '));
        sheet.cut(19);
        Check.due("room for one", sheet.type('1'), 20);
        Check.state("and no more", () -> sheet.type('1'));
    }

    /** Promise 3: "The draft keeps its first n characters." */
    private static void cutKeepsTheFirst() {
        for (int n = 0; n <= 5; n++) {
            OfficeSheet sheet = Check.sheet(1, 1);
            Check.draft(sheet, "12345");
            sheet.cut(n);
            Check.due("enter", sheet.enter(0, 0, 0), NONE);
            Check.holds(sheet, "A1", "12345".substring(0, n));
            Check.due("so many and one", sheet.type('7'), n + 1);
        }
    }

    /** Promise 3: "IllegalArgumentException: n is below 0, or it has not so many." */
    private static void cutWithinTheDraft() {
        OfficeSheet sheet = new OfficeSheet();
        for (int length = 0; length <= 20; length++) {
            int tooMany = length + 1;
            Check.argument("cut to " + tooMany + " of " + length, () -> sheet.cut(tooMany));
            Check.argument("cut to -1 of " + length, () -> sheet.cut(-1));
            sheet.cut(length);
            if (length < 20) {
                Check.due("all are kept", sheet.type('1'), length + 1);
            }
        }
        Check.argument("the least int", () -> sheet.cut(LEAST));
        Check.argument("the greatest int", () -> sheet.cut(GREATEST));
    }

    /** Promise 4: "behind the one that the office shows as after .., or the beginning for NONE: which line." */
    private static void putBehindOneOrTheBeginning() {
        for (int kind = ROW; kind <= COLUMN; kind++) {
            OfficeSheet sheet = new OfficeSheet();
            Check.due("the first", sheet.put(0, kind, NONE), 1);
            Check.due("behind the last", sheet.put(0, kind, 0), 2);
            Check.due("behind the first", sheet.put(0, kind, 0), 3);
            Check.due("before all", sheet.put(0, kind, NONE), 4);
            Check.due("behind the last again", sheet.put(0, kind, 3), 5);
            Check.due("so they stand", Check.shown(sheet, 0, kind), "4 1 3 2 5");
        }
    }

    /** Promise 4: "IndexOutOfBoundsException: there is no such line" */
    private static void putBehindNoOther() {
        OfficeSheet sheet = Check.sheet(3, 2);
        for (int none : new int[] {-2, 3, 4, 100, LEAST, GREATEST}) {
            Check.index("behind row " + none, () -> sheet.put(0, ROW, none));
            Check.index("behind column " + none, () -> sheet.put(0, COLUMN, none));
        }
        Check.index("behind column 2", () -> sheet.put(0, COLUMN, 2));
        Check.index("behind what office 1 does not show", () -> sheet.put(1, ROW, 0));
        sheet.remove(0, ROW, 2);
        Check.index("behind what is gone", () -> sheet.put(0, ROW, 2));
    }

    /** Promise 4: "IllegalStateException: .. shows 9 rows or more (for a row)" */
    private static void putUpToNineRows() {
        OfficeSheet sheet = Check.sheet(8, 0);
        Check.due("a ninth", sheet.put(0, ROW, 7), 9);
        Check.state("a tenth", () -> sheet.put(0, ROW, 8));
        Check.state("a tenth before all", () -> sheet.put(0, ROW, NONE));
        Check.due("a column", sheet.put(0, COLUMN, NONE), 10);
        sheet.remove(0, ROW, 0);
        Check.due("a ninth again", sheet.put(0, ROW, NONE), 12);
        Check.state("a tenth again", () -> sheet.put(0, ROW, NONE));
        sheet.undo(0);
        Check.due("and again", sheet.put(0, ROW, NONE), 14);
    }

    /** Promise 4: "5 columns or more (for a column)" */
    private static void putUpToFiveColumns() {
        OfficeSheet sheet = Check.sheet(0, 4);
        Check.due("a fifth", sheet.put(0, COLUMN, 3), 5);
        Check.state("a sixth", () -> sheet.put(0, COLUMN, 4));
        Check.state("a sixth before all", () -> sheet.put(0, COLUMN, NONE));
        for (int n = 6; n <= 14; n++) {
            Check.due("a row", sheet.put(0, ROW, NONE), n);
        }
        Check.state("a tenth row", () -> sheet.put(0, ROW, NONE));
        sheet.remove(0, COLUMN, 4);
        Check.due("a fifth again", sheet.put(0, COLUMN, 3), 16);
        Check.state("a sixth again", () -> sheet.put(0, COLUMN, NONE));
    }

    /** Promise 4: "the office .. shows 9 rows or more": not how many others show, wait, or were there */
    private static void putCountsWhatTheOfficeShows() {
        OfficeSheet sheet = Check.sheet(9, 5);
        Check.due("a row of office 1", sheet.put(1, ROW, NONE), 101);
        for (int n = 9; n >= 2; n--) {
            sheet.deliver(1, 0, n);
        }
        Check.due("eight wait", sheet.waiting(1), 8);
        Check.due("one more row", sheet.put(1, ROW, 0), 102);
        sheet.deliver(1, 0, 1);
        Check.due("eleven rows", sheet.lines(1, ROW), 11);
        Check.state("no row more", () -> sheet.put(1, ROW, NONE));
        Check.due("a column", sheet.put(1, COLUMN, NONE), 103);
        for (int n = 0; n < 3; n++) {
            sheet.remove(1, ROW, 0);
        }
        Check.due("eight rows are shown", sheet.put(1, ROW, NONE), 107);
        Check.state("nine are shown", () -> sheet.put(1, ROW, NONE));
    }

    /** Promise 4: "shows 9 rows or more .., 5 columns or more": also when there are more */
    private static void putWhenMoreAreShown() {
        OfficeSheet sheet = Check.sheet(9, 5);
        for (int i = 0; i < 5; i++) {
            sheet.put(1, ROW, NONE);
            sheet.put(1, COLUMN, NONE);
        }
        Check.deliverAll(sheet, 1, 0);
        Check.due("rows", sheet.lines(1, ROW), 14);
        Check.due("columns", sheet.lines(1, COLUMN), 10);
        for (int n = 0; n < 5; n++) {
            Check.state("no row more", () -> sheet.put(1, ROW, NONE));
            Check.state("no column more", () -> sheet.put(1, COLUMN, NONE));
            sheet.remove(1, ROW, 0);
            sheet.remove(1, COLUMN, 0);
        }
        Check.state("nine rows", () -> sheet.put(1, ROW, NONE));
        Check.state("five columns", () -> sheet.put(1, COLUMN, NONE));
    }

    /** Promise 5: "goes behind the one shown as after, likewise (also itself)" */
    private static void moveAlsoBehindItself() {
        OfficeSheet sheet = Check.sheet(3, 1);
        for (int i = 0; i < 3; i++) {
            sheet.move(0, ROW, i, i);
            Check.due("behind itself", Check.shown(sheet, 0, ROW), "1 2 3");
        }
        sheet.move(0, COLUMN, 0, 0);
        Check.due("the only one", Check.shown(sheet, 0, COLUMN), "4");
        Check.due("each is an act", sheet.known(0, 0), 8);
        sheet.move(0, ROW, 0, NONE);
        Check.due("the first to the beginning", Check.shown(sheet, 0, ROW), "1 2 3");
        sheet.move(0, ROW, 2, 1);
        Check.due("the last behind the one before", Check.shown(sheet, 0, ROW), "1 2 3");
        sheet.move(0, ROW, 0, 2);
        Check.due("the first to the end", Check.shown(sheet, 0, ROW), "2 3 1");
        sheet.put(0, ROW, 2);
        sheet.move(0, ROW, 2, 2);
        Check.due("others stay behind", Check.shown(sheet, 0, ROW), "2 3 1 12");
    }

    /** Promise 5: "Exceptions likewise": there is no such line, of i or of after */
    private static void moveOfNoLine() {
        OfficeSheet sheet = Check.sheet(3, 2);
        for (int none : new int[] {-2, 3, 4, 100, LEAST, GREATEST}) {
            Check.index("row " + none, () -> sheet.move(0, ROW, none, 0));
            Check.index("behind row " + none, () -> sheet.move(0, ROW, 0, none));
            Check.index("row " + none + " to the beginning", () -> sheet.move(0, ROW, none, NONE));
            Check.index("row " + none + " behind itself", () -> sheet.move(0, ROW, none, none));
        }
        Check.index("NONE is no line to move", () -> sheet.move(0, ROW, NONE, 0));
        Check.index("nor behind NONE", () -> sheet.move(0, ROW, NONE, NONE));
        Check.index("column 2", () -> sheet.move(0, COLUMN, 2, 0));
        Check.index("behind column 2", () -> sheet.move(0, COLUMN, 0, 2));
        Check.index("what office 1 does not show", () -> sheet.move(1, ROW, 0, NONE));
    }

    /** Promise 5: "(IllegalStateException: 40 acts alone)" */
    private static void moveWhenFull() {
        OfficeSheet sheet = Check.sheet(9, 5);
        sheet.move(0, ROW, 8, NONE);
        sheet.move(0, COLUMN, 4, NONE);
        Check.due("nine rows", Check.shown(sheet, 0, ROW), "9 1 2 3 4 5 6 7 8");
        Check.due("five columns", Check.shown(sheet, 0, COLUMN), "14 10 11 12 13");
        sheet.put(1, ROW, NONE);
        Check.deliverAll(sheet, 0, 1);
        sheet.move(0, ROW, 9, NONE);
        Check.due("ten rows", Check.shown(sheet, 0, ROW), "8 9 101 1 2 3 4 5 6 7");
    }

    /** Promise 6: "GONE: the line shown as i." */
    private static void removeTheLastOne() {
        OfficeSheet sheet = Check.sheet(3, 1);
        sheet.remove(0, ROW, 2);
        Check.due("the last", Check.shown(sheet, 0, ROW), "1 2");
        sheet.remove(0, ROW, 0);
        Check.due("the first", Check.shown(sheet, 0, ROW), "2");
        sheet.remove(0, ROW, 0);
        Check.due("the only one", Check.shown(sheet, 0, ROW), "");
        Check.index("no more", () -> sheet.remove(0, ROW, 0));
        Check.due("the column stays", Check.shown(sheet, 0, COLUMN), "4");
        Check.index("a column without rows has no cells", () -> sheet.value(0, 0, 0));
    }

    /** Promise 6: "Exceptions as for move()." */
    private static void removeOfNoLine() {
        OfficeSheet sheet = Check.sheet(3, 2);
        for (int none : new int[] {NONE, -2, 3, 4, 100, LEAST, GREATEST}) {
            Check.index("row " + none, () -> sheet.remove(0, ROW, none));
            Check.index("column " + none, () -> sheet.remove(0, COLUMN, none));
        }
        Check.index("column 2", () -> sheet.remove(0, COLUMN, 2));
        Check.index("what office 2 does not show", () -> sheet.remove(2, ROW, 0));
    }

    /** Promise 7: "(an empty draft: nothing)" */
    private static void enterNothing() {
        OfficeSheet sheet = Check.filled(1, 2, "A1 5", "B1 =n(A1:A1)");
        Check.worth(sheet, "B1", 10000);
        sheet.cut(0);
        Check.due("no fault", sheet.enter(0, 0, 0), NONE);
        Check.due("an act", sheet.known(0, 0), 6);
        Check.holds(sheet, "A1", "");
        Check.worth(sheet, "B1", 0);
        Check.due("nothing again", sheet.enter(0, 0, 0), NONE);
        Check.due("is an act too", sheet.known(0, 0), 7);
    }

    /** Promise 7: "NONE; or the place (from 0) of its fault, and there is no act" */
    private static void enterTellsTheFault() {
        OfficeSheet sheet = Check.filled(1, 1, "A1 5");
        Check.fault(sheet, "x", 0);
        Check.fault(sheet, "5x", 1);
        Check.fault(sheet, "=1+1+1+1+1+1+1+1+1+x", 19);
        Check.fault(sheet, "=-1+1+1+1+1+1+1+1+1+", 20);
        Check.holds(sheet, "A1", "5");
        Check.due("none to deliver", sheet.known(0, 0), 3);
        Check.argument("no fourth act", () -> sheet.deliver(1, 0, 4));
        Check.due("the act before is undone", sheet.undo(0) ? 1 : 0, 1);
        Check.holds(sheet, "A1", "");
    }

    /** Promise 7: "The draft stays in any case." */
    private static void enterKeepsTheDraft() {
        OfficeSheet sheet = Check.sheet(2, 1);
        Check.draft(sheet, "=1+2");
        Check.due("entered", sheet.enter(0, 0, 0), NONE);
        Check.index("refused", () -> sheet.enter(0, 2, 0));
        Check.due("entered again", sheet.enter(0, 1, 0), NONE);
        Check.holds(sheet, "A2", "=1+2");
        Check.due("goes on", sheet.type('+'), 5);
        Check.due("a fault", sheet.enter(0, 1, 0), 5);
        Check.due("goes on behind a fault", sheet.type('4'), 6);
        Check.due("entered at last", sheet.enter(0, 1, 0), NONE);
        Check.holds(sheet, "A2", "=1+2+4");
        Check.holds(sheet, "A1", "=1+2");
        sheet.put(1, ROW, NONE);
        sheet.put(1, COLUMN, NONE);
        Check.due("all offices have one draft", sheet.enter(1, 0, 0), NONE);
        Check.due("what it tells", sheet.value(1, 0, 0), 70000);
    }

    /** Promise 7: "IndexOutOfBoundsException: there is no such line" */
    private static void enterIntoNoCell() {
        OfficeSheet sheet = Check.sheet(3, 2);
        Check.draft(sheet, "5");
        for (int none : new int[] {NONE, -2, 3, 4, 100, LEAST, GREATEST}) {
            Check.index("row " + none, () -> sheet.enter(0, none, 0));
            Check.index("column " + none, () -> sheet.enter(0, 0, none));
            Check.index("both " + none, () -> sheet.enter(0, none, none));
        }
        Check.index("column 2", () -> sheet.enter(0, 2, 2));
        Check.due("the last cell", sheet.enter(0, 2, 1), NONE);
        sheet.remove(0, ROW, 2);
        Check.index("in a gone row", () -> sheet.enter(0, 2, 1));
        Check.index("at an office without lines", () -> sheet.enter(2, 0, 0));
        sheet.put(2, ROW, NONE);
        Check.index("at an office without columns", () -> sheet.enter(2, 0, 0));
    }

    /** Promise 9: "0 when it came before, 1 when it is taken (and perhaps others that waited), 2 when it waits" */
    private static void deliverOnceTwiceAndEarly() {
        OfficeSheet sheet = Check.sheet(3, 0);
        Check.due("waits", sheet.deliver(1, 0, 2), 2);
        Check.due("came before, though it waits", sheet.deliver(1, 0, 2), 0);
        Check.due("taken, with the one that waited", sheet.deliver(1, 0, 1), 1);
        Check.due("came before", sheet.deliver(1, 0, 1), 0);
        Check.due("came before, and was taken since", sheet.deliver(1, 0, 2), 0);
        Check.due("taken", sheet.deliver(1, 0, 3), 1);
        Check.due("came before", sheet.deliver(1, 0, 3), 0);
        Check.due("waits elsewhere", sheet.deliver(2, 0, 3), 2);
    }

    /** Promise 9: "IllegalArgumentException: also when both are the same, or there is no act with this number." */
    private static void deliverNoAct() {
        OfficeSheet sheet = Check.sheet(3, 0);
        for (int office = 0; office < 3; office++) {
            int same = office;
            Check.argument("to itself", () -> sheet.deliver(same, same, 1));
        }
        for (int none : new int[] {LEAST, -1, 0, 4, 5, 40, 41, 100, GREATEST}) {
            Check.argument("act " + none, () -> sheet.deliver(1, 0, none));
            Check.argument("act " + none + " of an office without acts", () -> sheet.deliver(0, 1, none));
        }
        Check.argument("its first", () -> sheet.deliver(0, 1, 1));
        Check.due("the last", sheet.deliver(1, 0, 3), 2);
        sheet.put(0, COLUMN, NONE);
        Check.due("a newer one", sheet.deliver(1, 0, 4), 2);
        Check.argument("what waits is no act of the office where it waits", () -> sheet.deliver(2, 1, 1));
    }

    /** Promise 10: "How many acts of an office another one (or itself) has taken." */
    private static void knownOfItselfAndOthers() {
        OfficeSheet sheet = Check.sheet(3, 0);
        sheet.put(1, ROW, NONE);
        sheet.deliver(1, 0, 1);
        sheet.deliver(1, 0, 3);
        sheet.deliver(0, 1, 1);
        int[][] want = {{3, 1, 0}, {1, 1, 0}, {0, 0, 0}};
        for (int office = 0; office < 3; office++) {
            for (int of = 0; of < 3; of++) {
                Check.due(office + " has taken of " + of, sheet.known(office, of), want[office][of]);
            }
        }
    }

    /** Promise 11: "How many acts wait at an office." */
    private static void waitingUpToAll() {
        OfficeSheet sheet = new OfficeSheet();
        sheet.put(0, ROW, NONE);
        sheet.deliver(1, 0, 1);
        for (int office = 0; office < 2; office++) {
            sheet.put(office, ROW, NONE);
            for (int n = sheet.known(office, office); n < 40; n++) {
                sheet.move(office, ROW, 0, 1);
            }
        }
        for (int n = 2; n <= 40; n++) {
            sheet.deliver(2, 0, n);
            sheet.deliver(2, 1, n - 1);
            Check.due("they wait", sheet.waiting(2), 2 * (n - 1));
        }
        Check.due("one more", sheet.deliver(2, 1, 40), 2);
        Check.due("all but one", sheet.waiting(2), 79);
        Check.due("that one", sheet.deliver(2, 0, 1), 1);
        Check.due("none", sheet.waiting(2), 0);
        Check.due("all", sheet.known(2, 0) + sheet.known(2, 1), 80);
    }

    /** Promise 12: "How many lines it shows." */
    private static void linesShown() {
        OfficeSheet sheet = new OfficeSheet();
        Check.due("none", sheet.lines(0, ROW), 0);
        for (int n = 1; n <= 9; n++) {
            sheet.put(0, ROW, NONE);
            Check.due("rows", sheet.lines(0, ROW), n);
            Check.due("no columns", sheet.lines(0, COLUMN), 0);
        }
        for (int n = 8; n >= 0; n--) {
            sheet.remove(0, ROW, n);
            Check.due("rows left", sheet.lines(0, ROW), n);
        }
        sheet.undo(0);
        Check.due("one again", sheet.lines(0, ROW), 1);
    }

    /** Promise 13: "Which line is shown as i. IndexOutOfBoundsException: there is none." */
    private static void lineShown() {
        OfficeSheet sheet = Check.sheet(3, 2);
        Check.due("row 0", sheet.line(0, ROW, 0), 1);
        Check.due("row 2", sheet.line(0, ROW, 2), 3);
        Check.due("column 1", sheet.line(0, COLUMN, 1), 5);
        for (int none : new int[] {NONE, -2, 3, 4, 100, LEAST, GREATEST}) {
            Check.index("row " + none, () -> sheet.line(0, ROW, none));
            Check.index("column " + none, () -> sheet.line(0, COLUMN, none));
        }
        Check.index("column 2", () -> sheet.line(0, COLUMN, 2));
        Check.index("at an office without lines", () -> sheet.line(1, ROW, 0));
    }

    /** Promise 14: "The value of a cell; 0 when it has an error." */
    private static void valueIsZeroWithAnError() {
        OfficeSheet sheet = Check.filled(3, 4, "A1 =5/0", "B1 =A3", "C1 =C1", "D1 =100000+5");
        sheet.remove(0, ROW, 2);
        int[] errors = {1, 2, 3, 4};
        for (int column = 0; column < 4; column++) {
            Check.due("error", sheet.error(0, 0, column), errors[column]);
            Check.due("value", sheet.value(0, 0, column), 0);
        }
    }

    /** Promises 14 to 17: "IndexOutOfBoundsException: there is no such line." */
    private static void cellsThatAreNotThere() {
        OfficeSheet sheet = Check.sheet(3, 2);
        for (int none : new int[] {NONE, 3, 100, LEAST, GREATEST}) {
            for (int other : new int[] {0, none}) {
                Check.index("value", () -> sheet.value(0, none, other));
                Check.index("value", () -> sheet.value(0, other, none));
                Check.index("error", () -> sheet.error(0, none, other));
                Check.index("error", () -> sheet.error(0, other, none));
                Check.index("also", () -> sheet.also(0, none, other));
                Check.index("also", () -> sheet.also(0, other, none));
                Check.index("print", () -> sheet.print(0, none, other));
                Check.index("print", () -> sheet.print(0, other, none));
            }
        }
        Check.due("the last cell", sheet.value(0, 2, 1) + sheet.error(0, 2, 1) + sheet.also(0, 2, 1), 0);
        Check.due("is printed", sheet.print(0, 2, 1), 0);
        Check.index("value in column 2", () -> sheet.value(0, 2, 2));
        Check.index("error in column 2", () -> sheet.error(0, 2, 2));
        Check.index("also in column 2", () -> sheet.also(0, 2, 2));
        Check.index("print in column 2", () -> sheet.print(0, 2, 2));
        sheet.remove(0, ROW, 2);
        Check.index("value in a gone row", () -> sheet.value(0, 2, 1));
        Check.index("error in a gone row", () -> sheet.error(0, 2, 1));
        Check.index("also in a gone row", () -> sheet.also(0, 2, 1));
        Check.index("print in a gone row", () -> sheet.print(0, 2, 1));
    }

    /** Promise 17: "OUT becomes what a cell holds, written: how many characters." */
    private static void printBecomesOut() {
        OfficeSheet sheet = Check.filled(1, 3, "A1 =B1+12", "B1 7");
        Check.due("six", sheet.print(0, 0, 0), 6);
        Check.due("the last", sheet.out(5), '2');
        Check.due("one", sheet.print(0, 0, 1), 1);
        Check.due("the only one", sheet.out(0), '7');
        Check.index("nothing is left of before", () -> sheet.out(1));
        Check.due("none", sheet.print(0, 0, 2), 0);
        Check.index("not even the first", () -> sheet.out(0));
        sheet.print(0, 0, 0);
        Check.fill(sheet, 0, "A1 9");
        Check.due("OUT stays until the next print", sheet.out(0), '=');
        Check.due("which is of what is held now", sheet.print(0, 0, 0), 1);
    }

    /** Promise 18: "Character k of OUT. IndexOutOfBoundsException: there is none." */
    private static void outOfItsCharacters() {
        OfficeSheet sheet = Check.filled(1, 2, "A1 =-B1/2.5");
        String want = "=-B1/2.5";
        Check.due("how many", sheet.print(0, 0, 0), want.length());
        for (int k = 0; k < want.length(); k++) {
            Check.due("character " + k, sheet.out(k), want.charAt(k));
        }
        for (int none : new int[] {-1, 8, 9, 20, 100, LEAST, GREATEST}) {
            Check.index("character " + none, () -> sheet.out(none));
        }
    }
}
