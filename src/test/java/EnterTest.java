/** Promise 7 (enter): what the draft may be, where its fault is, and what is refused. */
public final class EnterTest {
    private static final int NONE = OfficeSheet.NONE;

    public static void main(String[] args) {
        numbers();
        formulas();
        numberFaults();
        formulaFaults();
        tokenFaults();
        referenceFaults();
        rowsOfTwoDigits();
        draftStays();
        faultsAreNoActs();
        emptyDraft();
        refuses();
        Check.end();
    }

    private static void good(OfficeSheet sheet, String text, int value) {
        Check.due("enter " + text, Check.enter(sheet, 0, 1, 1, text), NONE);
        Check.due("error of " + text, sheet.error(0, 1, 1), 0);
        Check.due("value of " + text, sheet.value(0, 1, 1), value);
    }

    private static void numbers() {
        OfficeSheet sheet = Check.sheet(2, 2);
        good(sheet, "0", 0);
        good(sheet, "-0", 0);
        good(sheet, "7", 70000);
        good(sheet, "-7", -70000);
        good(sheet, "007.50", 75000);
        good(sheet, "0.0001", 1);
        good(sheet, "-0.0001", -1);
        good(sheet, "000001.0000", 10000);
        good(sheet, "99999.9999", 999999999);
        good(sheet, "100000", 1000000000);
        good(sheet, "100000.0000", 1000000000);
        good(sheet, "-100000.0", -1000000000);
    }

    private static void formulas() {
        OfficeSheet sheet = Check.sheet(2, 2);
        Check.enter(sheet, 0, 0, 0, "3");
        good(sheet, "=1", 10000);
        good(sheet, "=-1", -10000);
        good(sheet, "=A1", 30000);
        good(sheet, "=B1", 0);
        good(sheet, "=-A1*-A1", 90000);
        good(sheet, "=10-3-2", 50000);
        good(sheet, "=12/3/2", 20000);
        good(sheet, "=12/3*2", 80000);
        good(sheet, "=1+2*A1", 70000);
        good(sheet, "=(1+2)*A1", 90000);
        good(sheet, "=s(A1:B1)", 30000);
        good(sheet, "=n(B1:A1)", 10000);
        good(sheet, "=m(A1:A1)", 30000);
        good(sheet, "=(((((((((1)))))))))", 10000);
        good(sheet, "=------------------1", 10000);
        good(sheet, "=1+1+1+1+1+1+1+1+1+1", 100000);
    }

    private static void fault(OfficeSheet sheet, String text, int at) {
        Check.fault(sheet, text, at);
    }

    private static void numberFaults() {
        OfficeSheet sheet = Check.sheet(1, 1);
        fault(sheet, "-", 1);
        fault(sheet, "--1", 1);
        fault(sheet, "+1", 0);
        fault(sheet, " 1", 0);
        fault(sheet, "1 ", 1);
        fault(sheet, "x", 0);
        fault(sheet, "-x", 1);
        fault(sheet, "12x", 2);
        fault(sheet, "1-2", 1);
        fault(sheet, "(1)", 0);
        fault(sheet, "A1", 0);
        fault(sheet, "-A1", 1);
        fault(sheet, "-=1", 1);
        fault(sheet, "1=", 1);
        fault(sheet, "1.", 0);
        fault(sheet, ".5", 0);
        fault(sheet, "-.5", 1);
        fault(sheet, ".", 0);
        fault(sheet, "..", 0);
        fault(sheet, "1..2", 0);
        fault(sheet, "1.2.3", 0);
        fault(sheet, "1.23456", 0);
        fault(sheet, "0.00000", 0);
        fault(sheet, "1234567", 0);
        fault(sheet, "0000001", 0);
        fault(sheet, "-1234567", 1);
        fault(sheet, "100000.0001", 0);
        fault(sheet, "-100000.0001", 1);
        fault(sheet, "100001", 0);
        fault(sheet, "999999", 0);
        fault(sheet, "99999999999999999999", 0);
        fault(sheet, "18446744073709551617", 0);
        fault(sheet, "1.844674407370955161", 0);
    }

    private static void formulaFaults() {
        OfficeSheet sheet = Check.sheet(1, 1);
        fault(sheet, "=", 1);
        fault(sheet, "==1", 1);
        fault(sheet, "=1+", 3);
        fault(sheet, "=1+*2", 3);
        fault(sheet, "=+1", 1);
        fault(sheet, "=*1", 1);
        fault(sheet, "=-", 2);
        fault(sheet, "=1*-", 4);
        fault(sheet, "=1*/2", 3);
        fault(sheet, "=()", 2);
        fault(sheet, "=(1", 3);
        fault(sheet, "=((1)", 5);
        fault(sheet, "=(1))", 4);
        fault(sheet, "=)", 1);
        fault(sheet, "=1(2)", 2);
        fault(sheet, "=(1)2", 4);
        fault(sheet, "=(1)(2)", 4);
        fault(sheet, "=1 +2", 2);
        fault(sheet, "=1=1", 2);
        fault(sheet, "=1:1", 2);
        fault(sheet, "=x", 1);
        fault(sheet, "=1x", 2);
        fault(sheet, "=#", 1);
        fault(sheet, "=(((((((((((((((((((", 20);
        fault(sheet, "=-------------------", 20);
        fault(sheet, "=-(-(-(-(-(-(-(-(-(-", 20);
    }

    private static void tokenFaults() {
        OfficeSheet sheet = Check.sheet(1, 1);
        fault(sheet, "=1+1.", 3);
        fault(sheet, "=1+.1", 3);
        fault(sheet, "=1+1.1.1", 3);
        fault(sheet, "=1.23456*2", 1);
        fault(sheet, "=(1234567)", 2);
        fault(sheet, "=-100000.0001", 2);
        fault(sheet, "=A1.5", 3);
        fault(sheet, "=A1A1", 3);
        fault(sheet, "=1A1", 2);
        fault(sheet, "=A1(1)", 3);
        fault(sheet, "=s", 2);
        fault(sheet, "=s1", 2);
        fault(sheet, "=sA1", 2);
        fault(sheet, "=s(", 3);
        fault(sheet, "=s()", 3);
        fault(sheet, "=s(1:A1)", 3);
        fault(sheet, "=s(A1", 5);
        fault(sheet, "=s(A1)", 5);
        fault(sheet, "=s(A1-A1)", 5);
        fault(sheet, "=s(A1:", 6);
        fault(sheet, "=s(A1:)", 6);
        fault(sheet, "=s(A1:1)", 6);
        fault(sheet, "=n(A1:A1", 8);
        fault(sheet, "=m(A1:A1:A1)", 8);
        fault(sheet, "=m(A1:A1+1)", 8);
        fault(sheet, "=m((A1:A1))", 3);
        fault(sheet, "=s(-A1:A1)", 3);
        fault(sheet, "=S(A1:A1)", 1);
        fault(sheet, "=sum(A1:A1)", 2);
        fault(sheet, "=A1:A1", 3);
        fault(sheet, "=s(A1:A1)s(A1:A1)", 9);
        fault(sheet, "=s(A1:A1)-s(A1:A1", 17);
    }

    private static void referenceFaults() {
        OfficeSheet sheet = Check.sheet(2, 3);
        Check.due("the last cell", Check.enter(sheet, 0, 0, 0, "=C2"), NONE);
        fault(sheet, "=C3", 1);
        fault(sheet, "=D2", 1);
        fault(sheet, "=Z1", 1);
        fault(sheet, "=A", 1);
        fault(sheet, "=A+1", 1);
        fault(sheet, "=a1", 1);
        fault(sheet, "=A0", 1);
        fault(sheet, "=A01", 1);
        fault(sheet, "=A00", 1);
        fault(sheet, "=A10", 1);
        fault(sheet, "=A20", 1);
        fault(sheet, "=A22", 1);
        fault(sheet, "=A99", 1);
        fault(sheet, "=A100", 1);
        fault(sheet, "=1+A3", 3);
        fault(sheet, "=s(A1:A3)", 6);
        fault(sheet, "=s(D1:A1)", 3);
        fault(sheet, "=A3*", 1);
        sheet.remove(0, 1, 2);
        fault(sheet, "=C2", 1);
    }

    private static void rowsOfTwoDigits() {
        OfficeSheet sheet = Check.sheet(9, 1);
        for (int i = 0; i < 4; i++) {
            sheet.put(1, 0, NONE);
        }
        Check.deliverAll(sheet, 0, 1);
        Check.due("rows of both", sheet.lines(0, 0), 13);
        Check.enter(sheet, 0, 12, 0, "13");
        Check.due("=A13", Check.enter(sheet, 0, 0, 0, "=A13"), NONE);
        Check.due("value of =A13", sheet.value(0, 0, 0), 130000);
        Check.due("=A10", Check.enter(sheet, 0, 0, 0, "=A10"), NONE);
        fault(sheet, "=A14", 1);
        fault(sheet, "=A130", 4);
        fault(sheet, "=A10.5", 4);
        fault(sheet, "=A013", 1);
    }

    private static void draftStays() {
        OfficeSheet sheet = Check.sheet(2, 2);
        Check.draft(sheet, "=1+");
        Check.due("a fault", sheet.enter(0, 0, 0), 3);
        Check.due("the draft goes on", sheet.type('4'), 4);
        Check.due("no fault", sheet.enter(0, 0, 0), NONE);
        Check.due("into another cell too", sheet.enter(0, 1, 1), NONE);
        Check.due("first cell", sheet.value(0, 0, 0), 50000);
        Check.due("second cell", sheet.value(0, 1, 1), 50000);
        Check.due("not into others", sheet.value(0, 0, 1) + sheet.value(0, 1, 0), 0);
    }

    private static void faultsAreNoActs() {
        OfficeSheet sheet = Check.sheet(1, 1);
        Check.enter(sheet, 0, 0, 0, "5");
        Check.due("a fault", Check.enter(sheet, 0, 0, 0, "=5+"), 3);
        Check.due("acts", sheet.known(0, 0), 3);
        Check.due("the cell holds what it held", sheet.value(0, 0, 0), 50000);
    }

    private static void emptyDraft() {
        OfficeSheet sheet = Check.sheet(1, 1);
        Check.due("nothing into nothing", sheet.enter(0, 0, 0), NONE);
        Check.due("is an act", sheet.known(0, 0), 3);
        Check.enter(sheet, 0, 0, 0, "5");
        Check.due("nothing into a cell", Check.enter(sheet, 0, 0, 0, ""), NONE);
        Check.due("which then is 0", sheet.value(0, 0, 0), 0);
        Check.due("and holds nothing", sheet.print(0, 0, 0), 0);
        Check.due("is an act too", sheet.known(0, 0), 5);
    }

    private static void refuses() {
        OfficeSheet sheet = Check.sheet(2, 1);
        Check.draft(sheet, "=(");
        Check.argument("enter at office 3", () -> sheet.enter(3, 0, 0));
        Check.argument("enter at office -1", () -> sheet.enter(-1, 9, 9));
        Check.index("enter into row 2", () -> sheet.enter(0, 2, 0));
        Check.index("enter into row -1", () -> sheet.enter(0, NONE, 0));
        Check.index("enter into column 1", () -> sheet.enter(0, 0, 1));
        Check.index("enter into column -1", () -> sheet.enter(0, 0, NONE));
        Check.index("enter where nothing came", () -> sheet.enter(1, 0, 0));
        Check.draft(sheet, "1");
        for (int n = 3; n < 40; n++) {
            Check.due("enter " + n, sheet.enter(0, 0, 0), NONE);
        }
        Check.state("a 41st act", () -> sheet.enter(0, 0, 0));
        Check.index("the line goes first", () -> sheet.enter(0, 2, 0));
        Check.draft(sheet, "=(");
        Check.state("also with a fault", () -> sheet.enter(0, 0, 0));
    }
}
