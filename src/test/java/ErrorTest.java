/** Promise 15 (error). */
public final class ErrorTest {
    private static final int NONE = OfficeSheet.NONE;
    private static final int ROW = 0;
    private static final int COLUMN = 1;

    public static void main(String[] args) {
        none();
        quotientByZero();
        lineNotShown();
        noNumber();
        sumsOnTheWay();
        readsItself();
        readsThroughBlocks();
        readsOnlyWhatIsShown();
        ringGoesBeforeAll();
        leftGoesFirst();
        partsGoBeforeOwn();
        firstOfBlock();
        countHasOnlyItsLines();
        refuses();
        Check.end();
    }

    private static void is(OfficeSheet sheet, int row, int column, int error) {
        Check.due("error of " + Check.printed(sheet, 0, row, column), sheet.error(0, row, column), error);
        if (error != 0) {
            Check.due("value with an error", sheet.value(0, row, column), 0);
        }
    }

    private static void formula(OfficeSheet sheet, String text, int error) {
        Check.due("enter " + text, Check.enter(sheet, 0, 2, 2, text), NONE);
        is(sheet, 2, 2, error);
    }

    private static void none() {
        OfficeSheet sheet = Check.sheet(3, 3);
        is(sheet, 0, 0, 0);
        Check.enter(sheet, 0, 0, 0, "5");
        is(sheet, 0, 0, 0);
        formula(sheet, "=A1/A1", 0);
        formula(sheet, "=0/A1", 0);
    }

    private static void quotientByZero() {
        OfficeSheet sheet = Check.sheet(3, 3);
        formula(sheet, "=1/0", 1);
        formula(sheet, "=0/0", 1);
        formula(sheet, "=1/A1", 1);
        formula(sheet, "=1/(2-2)", 1);
        formula(sheet, "=1/(0.0001*0.5)", 1);
        formula(sheet, "=-(1/0)", 1);
        formula(sheet, "=1/0.0001", 0);
        Check.enter(sheet, 0, 0, 0, "=1/0");
        formula(sheet, "=A1", 1);
        formula(sheet, "=0*A1", 1);
        formula(sheet, "=s(A1:B1)", 1);
        formula(sheet, "=m(A1:B1)", 1);
        formula(sheet, "=n(A1:B1)", 0);
    }

    private static void lineNotShown() {
        OfficeSheet sheet = Check.sheet(4, 4);
        Check.enter(sheet, 0, 0, 0, "=B4");
        Check.enter(sheet, 0, 0, 1, "=s(B2:D2)");
        Check.enter(sheet, 0, 0, 2, "=n(A4:B2)");
        Check.enter(sheet, 0, 1, 0, "=-A1+1");
        is(sheet, 0, 0, 0);
        sheet.remove(0, ROW, 3);
        is(sheet, 0, 0, 2);
        is(sheet, 0, 1, 0);
        is(sheet, 0, 2, 2);
        is(sheet, 1, 0, 2);
        sheet.remove(0, COLUMN, 3);
        is(sheet, 0, 1, 2);
        sheet.undo(0);
        is(sheet, 0, 1, 0);
    }

    private static void noNumber() {
        OfficeSheet sheet = Check.sheet(3, 3);
        Check.enter(sheet, 0, 0, 0, "100000");
        Check.enter(sheet, 0, 0, 1, "0.0001");
        formula(sheet, "=A1+B1", 4);
        formula(sheet, "=-A1-B1", 4);
        formula(sheet, "=A1+B1-B1", 4);
        formula(sheet, "=A1-B1+B1", 0);
        formula(sheet, "=A1*1.0001", 4);
        formula(sheet, "=A1*-1.0001", 4);
        formula(sheet, "=A1*0.9999", 0);
        formula(sheet, "=A1*A1", 4);
        formula(sheet, "=A1/B1", 4);
        formula(sheet, "=A1/0.9999", 4);
        formula(sheet, "=-A1/1", 0);
        formula(sheet, "=(A1*2)/2", 4);
        Check.enter(sheet, 0, 1, 0, "=A1*2");
        formula(sheet, "=A2/2", 4);
    }

    private static void sumsOnTheWay() {
        OfficeSheet sheet = Check.sheet(3, 3);
        Check.enter(sheet, 0, 0, 0, "100000");
        Check.enter(sheet, 0, 0, 1, "1");
        Check.enter(sheet, 0, 1, 0, "-1");
        formula(sheet, "=s(A1:B2)", 4);
        formula(sheet, "=m(A1:B2)", 0);
        sheet.move(0, ROW, 1, NONE);
        formula(sheet, "=s(A1:B2)", 0);
        Check.due("row by row", sheet.value(0, 2, 2), 1000000000);
        sheet.move(0, ROW, 0, 1);
        Check.enter(sheet, 0, 0, 0, "-100000");
        Check.enter(sheet, 0, 0, 1, "-1");
        Check.enter(sheet, 0, 1, 0, "5");
        formula(sheet, "=s(A1:B2)", 4);
        Check.enter(sheet, 0, 0, 1, "5");
        formula(sheet, "=s(A1:B2)", 0);
    }

    private static void readsItself() {
        OfficeSheet sheet = Check.sheet(3, 3);
        formula(sheet, "=C3", 3);
        formula(sheet, "=-(1+C3*0)", 3);
        formula(sheet, "=A1", 0);
        Check.enter(sheet, 0, 0, 0, "=B1");
        is(sheet, 0, 0, 0);
        Check.enter(sheet, 0, 0, 1, "=A1");
        is(sheet, 0, 0, 3);
        is(sheet, 0, 1, 3);
        is(sheet, 2, 2, 3);
        Check.enter(sheet, 0, 1, 1, "=C3");
        is(sheet, 1, 1, 3);
        Check.enter(sheet, 0, 1, 0, "=5");
        is(sheet, 1, 0, 0);
        Check.enter(sheet, 0, 0, 1, "=A2");
        is(sheet, 0, 0, 0);
        is(sheet, 1, 1, 0);
        Check.due("no ring any more", sheet.value(0, 1, 1), 50000);
    }

    private static void readsThroughBlocks() {
        OfficeSheet sheet = Check.sheet(3, 3);
        formula(sheet, "=s(A1:C3)", 3);
        formula(sheet, "=n(C3:C3)", 3);
        formula(sheet, "=m(B2:C3)", 3);
        formula(sheet, "=s(A1:C2)", 0);
        Check.enter(sheet, 0, 0, 1, "=n(A3:C3)");
        is(sheet, 0, 1, 3);
        is(sheet, 2, 2, 3);
        is(sheet, 0, 0, 0);
        Check.enter(sheet, 0, 0, 0, "=n(B1:B1)");
        is(sheet, 0, 0, 3);
    }

    private static void readsOnlyWhatIsShown() {
        OfficeSheet sheet = Check.sheet(4, 3);
        Check.enter(sheet, 0, 0, 0, "=s(A1:A4)");
        Check.enter(sheet, 0, 1, 1, "=A4+B2");
        Check.enter(sheet, 0, 2, 0, "=A4");
        Check.enter(sheet, 0, 3, 0, "=A3");
        is(sheet, 0, 0, 3);
        is(sheet, 2, 0, 3);
        sheet.remove(0, ROW, 3);
        is(sheet, 0, 0, 2);
        is(sheet, 1, 1, 3);
        is(sheet, 2, 0, 2);
    }

    private static void ringGoesBeforeAll() {
        OfficeSheet sheet = Check.sheet(4, 3);
        formula(sheet, "=1/0+C3", 3);
        formula(sheet, "=C3+1/0", 3);
        formula(sheet, "=C3/0", 3);
        formula(sheet, "=100000*2+C3", 3);
        Check.enter(sheet, 0, 0, 0, "=1/0");
        formula(sheet, "=s(A1:C3)", 3);
        formula(sheet, "=A1+C3", 3);
        Check.enter(sheet, 0, 0, 1, "=A4");
        sheet.remove(0, ROW, 3);
        is(sheet, 0, 1, 2);
        formula(sheet, "=B1*n(C3:C3)", 3);
    }

    private static void leftGoesFirst() {
        OfficeSheet sheet = Check.sheet(4, 3);
        Check.enter(sheet, 0, 0, 0, "=1/0");
        Check.enter(sheet, 0, 0, 1, "=A4");
        Check.enter(sheet, 0, 0, 2, "=100000+1");
        sheet.remove(0, ROW, 3);
        String[] names = {"A1", "B1", "C1"};
        int[] errors = {1, 2, 4};
        for (int left = 0; left < 3; left++) {
            for (int right = 0; right < 3; right++) {
                formula(sheet, "=" + names[left] + "*" + names[right], errors[left]);
            }
        }
        formula(sheet, "=1+-B1-A1", 2);
        formula(sheet, "=(1-C1)/(0*A1)", 4);
    }

    private static void partsGoBeforeOwn() {
        OfficeSheet sheet = Check.sheet(4, 3);
        Check.enter(sheet, 0, 0, 1, "=A4");
        Check.enter(sheet, 0, 0, 2, "=100000+1");
        sheet.remove(0, ROW, 3);
        formula(sheet, "=B1/0", 2);
        formula(sheet, "=C1/0", 4);
        formula(sheet, "=0/C1", 4);
        formula(sheet, "=(100000+1)/0", 4);
        formula(sheet, "=1/0/B1", 1);
        formula(sheet, "=1/(0/B1)", 2);
    }

    private static void firstOfBlock() {
        OfficeSheet sheet = Check.sheet(4, 3);
        Check.enter(sheet, 0, 0, 1, "=1/0");
        Check.enter(sheet, 0, 1, 0, "=A4");
        sheet.remove(0, ROW, 3);
        formula(sheet, "=s(A1:B2)", 1);
        formula(sheet, "=m(B2:A1)", 1);
        formula(sheet, "=s(A2:B2)", 2);
        sheet.move(0, ROW, 0, 1);
        Check.due("the other row first", sheet.error(0, 2, 2), 2);
        formula(sheet, "=s(A2:B1)", 2);
        formula(sheet, "=m(A1:B2)", 2);
        sheet.move(0, ROW, 0, 1);
        Check.enter(sheet, 0, 0, 0, "=100000*2");
        formula(sheet, "=s(A1:B2)", 4);
        Check.enter(sheet, 0, 0, 0, "100000");
        Check.enter(sheet, 0, 0, 1, "1");
        formula(sheet, "=s(A1:B2)", 2);
        formula(sheet, "=s(A1:B1)", 4);
    }

    private static void countHasOnlyItsLines() {
        OfficeSheet sheet = Check.sheet(4, 3);
        Check.enter(sheet, 0, 0, 0, "=1/0");
        Check.enter(sheet, 0, 0, 1, "=A4");
        Check.enter(sheet, 0, 1, 0, "=n(A4:A3)");
        Check.enter(sheet, 0, 1, 1, "=100000*2");
        sheet.remove(0, ROW, 3);
        is(sheet, 1, 0, 2);
        formula(sheet, "=n(A1:B2)", 0);
        Check.due("cells with errors hold something", sheet.value(0, 2, 2), 40000);
    }

    private static void refuses() {
        OfficeSheet sheet = Check.sheet(2, 1);
        Check.argument("error at office 3", () -> sheet.error(3, 0, 0));
        Check.argument("error at office -1", () -> sheet.error(-1, 5, 5));
        Check.index("error in row 2", () -> sheet.error(0, 2, 0));
        Check.index("error in row -1", () -> sheet.error(0, NONE, 0));
        Check.index("error in column 1", () -> sheet.error(0, 0, 1));
        Check.index("error in column -1", () -> sheet.error(0, 0, NONE));
        Check.index("error where nothing came", () -> sheet.error(2, 0, 0));
    }
}
