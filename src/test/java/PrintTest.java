/** Promises 17 (print), 18 (out). */
public final class PrintTest {
    private static final int NONE = OfficeSheet.NONE;
    private static final int ROW = 0;
    private static final int COLUMN = 1;

    public static void main(String[] args) {
        numbers();
        formulas();
        bracketsThatGo();
        bracketsThatStay();
        namesFollowTheirLines();
        linesNotShown();
        columnsBehindTheLastLetter();
        rowsOfTwoDigits();
        outStays();
        refuses();
        Check.end();
    }

    private static void same(OfficeSheet sheet, String text) {
        written(sheet, text, text);
    }

    private static void written(OfficeSheet sheet, String text, String want) {
        Check.due("enter " + text, Check.enter(sheet, 0, 1, 1, text), NONE);
        Check.due("printed " + text, Check.printed(sheet, 0, 1, 1), want);
        Check.due("length of " + text, sheet.print(0, 1, 1), want.length());
    }

    private static void numbers() {
        OfficeSheet sheet = Check.sheet(2, 2);
        same(sheet, "");
        same(sheet, "0");
        same(sheet, "-1");
        same(sheet, "100000");
        same(sheet, "-99999.9999");
        same(sheet, "0.5");
        same(sheet, "-0.0001");
        same(sheet, "10.01");
        same(sheet, "1.0203");
        written(sheet, "-0", "0");
        written(sheet, "-0.0000", "0");
        written(sheet, "000012", "12");
        written(sheet, "100.0", "100");
        written(sheet, "1.50", "1.5");
        written(sheet, "00.0500", "0.05");
        written(sheet, "-007.1230", "-7.123");
    }

    private static void formulas() {
        OfficeSheet sheet = Check.sheet(2, 2);
        same(sheet, "=1");
        same(sheet, "=A1");
        same(sheet, "=B2");
        same(sheet, "=--A1---1");
        same(sheet, "=1+2-3+4-5");
        same(sheet, "=1*2/3*4/5");
        same(sheet, "=1+2*3-4/5");
        same(sheet, "=s(A1:B2)*n(B2:A1)");
        same(sheet, "=-m(A2:B1)");
        written(sheet, "=001.10*02.00", "=1.1*2");
        written(sheet, "=0.0", "=0");
    }

    private static void bracketsThatGo() {
        OfficeSheet sheet = Check.sheet(2, 2);
        written(sheet, "=((1))", "=1");
        written(sheet, "=(1+2)", "=1+2");
        written(sheet, "=(1+2)-3", "=1+2-3");
        written(sheet, "=(1*2)+(3/4)", "=1*2+3/4");
        written(sheet, "=(1*2)/3", "=1*2/3");
        written(sheet, "=1-(2*3)", "=1-2*3");
        written(sheet, "=1+(-2)", "=1+-2");
        written(sheet, "=1*(-2)", "=1*-2");
        written(sheet, "=(-2)*3", "=-2*3");
        written(sheet, "=-(-(2))", "=--2");
        written(sheet, "=-(s(A1:A2))", "=-s(A1:A2)");
        written(sheet, "=(A1)/(B1)", "=A1/B1");
    }

    private static void bracketsThatStay() {
        OfficeSheet sheet = Check.sheet(2, 2);
        same(sheet, "=1+(2+3)");
        same(sheet, "=1+(2-3)");
        same(sheet, "=1-(2+3)");
        same(sheet, "=1-(2-3)");
        same(sheet, "=(1+2)*3");
        same(sheet, "=(1-2)/3");
        same(sheet, "=1*(2+3)");
        same(sheet, "=1/(2-3)");
        same(sheet, "=1*(2*3)");
        same(sheet, "=1*(2/3)");
        same(sheet, "=1/(2*3)");
        same(sheet, "=1/(2/3)");
        same(sheet, "=-(1+2)");
        same(sheet, "=-(1-2)");
        same(sheet, "=-(1*2)");
        same(sheet, "=-(1/2)");
        same(sheet, "=-(1/2)*-(1-2)");
        same(sheet, "=1-(2-(3-(4-5)))");
        same(sheet, "=(1-(2+3)*4)*5");
    }

    private static void namesFollowTheirLines() {
        OfficeSheet sheet = Check.sheet(2, 2);
        Check.enter(sheet, 0, 0, 0, "=B2+s(A1:B2)");
        Check.due("before", Check.printed(sheet, 0, 0, 0), "=B2+s(A1:B2)");
        sheet.put(0, ROW, 0);
        sheet.put(0, COLUMN, NONE);
        Check.due("after puts", Check.printed(sheet, 0, 0, 1), "=C3+s(B1:C3)");
        sheet.move(0, ROW, 2, NONE);
        sheet.move(0, COLUMN, 2, 0);
        Check.due("after moves", Check.printed(sheet, 0, 1, 2), "=B1+s(C2:B1)");
        sheet.remove(0, COLUMN, 0);
        Check.due("after a remove", Check.printed(sheet, 0, 1, 1), "=A1+s(B2:A1)");
        Check.meet(sheet);
        sheet.move(1, COLUMN, 1, NONE);
        Check.due("at another office", Check.printed(sheet, 1, 1, 0), "=B1+s(A2:B1)");
        Check.due("not at the first", Check.printed(sheet, 0, 1, 1), "=A1+s(B2:A1)");
    }

    private static void linesNotShown() {
        OfficeSheet sheet = Check.sheet(3, 3);
        Check.enter(sheet, 0, 0, 0, "=A3-C1*B2");
        Check.enter(sheet, 0, 0, 1, "=s(A1:B3)/n(C1:A1)");
        Check.enter(sheet, 0, 1, 1, "=m(A1:B2)");
        sheet.remove(0, ROW, 2);
        Check.due("a row", Check.printed(sheet, 0, 0, 0), "=#-C1*B2");
        Check.due("a block's second row", Check.printed(sheet, 0, 0, 1), "=s(#)/n(C1:A1)");
        sheet.remove(0, COLUMN, 2);
        Check.due("a column", Check.printed(sheet, 0, 0, 0), "=#-#*B2");
        Check.due("a block's first column", Check.printed(sheet, 0, 0, 1), "=s(#)/n(#)");
        Check.due("a block that is shown", Check.printed(sheet, 0, 1, 1), "=m(A1:B2)");
        sheet.undo(0);
        Check.due("there again", Check.printed(sheet, 0, 0, 0), "=#-C1*B2");
        sheet.put(0, ROW, 1);
        Check.due("another row in its stead", Check.printed(sheet, 0, 0, 0), "=#-C1*B2");
    }

    private static void columnsBehindTheLastLetter() {
        OfficeSheet sheet = Check.thirtyColumns();
        Check.due("columns", sheet.lines(2, COLUMN), 30);
        Check.enter(sheet, 2, 0, 25, "3");
        Check.due("the 26th", Check.enter(sheet, 2, 0, 0, "=Z1+s(Z1:B1)"), NONE);
        Check.due("by its name", Check.printed(sheet, 2, 0, 0), "=Z1+s(Z1:B1)");
        sheet.move(2, COLUMN, 29, NONE);
        Check.due("behind it", Check.printed(sheet, 2, 0, 1), "=#+s(#)");
        Check.due("without a name it is still shown", sheet.value(2, 0, 1), 60000);
        Check.due("and no error", sheet.error(2, 0, 1), 0);
        sheet.undo(2);
        Check.due("by its name again", Check.printed(sheet, 2, 0, 0), "=Z1+s(Z1:B1)");
        Check.due("a sign behind Z", Check.enter(sheet, 2, 0, 1, "=[1"), 1);
    }

    private static void rowsOfTwoDigits() {
        OfficeSheet sheet = Check.sheet(9, 1);
        for (int i = 0; i < 9; i++) {
            sheet.put(1, ROW, NONE);
        }
        Check.enter(sheet, 0, 0, 0, "=s(A1:A9)-A2-A3-A4");
        Check.deliverAll(sheet, 0, 1);
        Check.due("rows", sheet.lines(0, ROW), 18);
        Check.due("longer than a draft", Check.printed(sheet, 0, 9, 0), "=s(A10:A18)-A11-A12-A13");
    }

    private static void outStays() {
        OfficeSheet sheet = Check.sheet(1, 2);
        Check.enter(sheet, 0, 0, 0, "=A1*12");
        Check.due("print", sheet.print(0, 0, 0), 6);
        sheet.put(0, ROW, NONE);
        Check.enter(sheet, 0, 1, 0, "7");
        Check.index("refused", () -> sheet.print(0, 5, 5));
        String want = "=A1*12";
        for (int k = 0; k < want.length(); k++) {
            Check.due("out " + k, sheet.out(k), want.charAt(k));
        }
        Check.index("behind it", () -> sheet.out(6));
        Check.index("before it", () -> sheet.out(-1));
        Check.due("shorter", sheet.print(0, 1, 0), 1);
        Check.due("out", sheet.out(0), '7');
        Check.index("behind the shorter", () -> sheet.out(1));
        Check.due("nothing", sheet.print(0, 1, 1), 0);
        Check.index("out of nothing", () -> sheet.out(0));
        Check.index("the greatest int", () -> sheet.out(Integer.MAX_VALUE));
        Check.index("the least int", () -> sheet.out(Integer.MIN_VALUE));
    }

    private static void refuses() {
        OfficeSheet sheet = Check.sheet(2, 1);
        Check.argument("print at office 3", () -> sheet.print(3, 0, 0));
        Check.argument("print at office -1", () -> sheet.print(-1, 5, 5));
        Check.index("print in row 2", () -> sheet.print(0, 2, 0));
        Check.index("print in row -1", () -> sheet.print(0, NONE, 0));
        Check.index("print in column 1", () -> sheet.print(0, 0, 1));
        Check.index("print in column -1", () -> sheet.print(0, 0, NONE));
        Check.index("print where nothing came", () -> sheet.print(2, 0, 0));
    }
}
