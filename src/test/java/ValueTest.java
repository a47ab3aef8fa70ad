/** Promise 14 (value): what cells are worth, and how results are rounded. */
public final class ValueTest {
    private static final int NONE = OfficeSheet.NONE;
    private static final int ROW = 0;
    private static final int COLUMN = 1;

    public static void main(String[] args) {
        cells();
        products();
        quotients();
        edges();
        blocks();
        blocksFollowTheirLines();
        referencesFollowTheirLines();
        chains();
        latestWriteCounts();
        eachOfficeHasItsOwn();
        refuses();
        Check.end();
    }

    private static void formula(OfficeSheet sheet, String text, int value) {
        Check.due("enter " + text, Check.enter(sheet, 0, 2, 2, text), NONE);
        Check.due("value of " + text, sheet.value(0, 2, 2), value);
        Check.due("error of " + text, sheet.error(0, 2, 2), 0);
    }

    private static void cells() {
        OfficeSheet sheet = Check.sheet(3, 3);
        Check.due("nothing is 0", sheet.value(0, 0, 0), 0);
        Check.enter(sheet, 0, 0, 0, "-12.345");
        Check.due("a number is itself", sheet.value(0, 0, 0), -123450);
        formula(sheet, "=A1", -123450);
        formula(sheet, "=-A1", 123450);
        formula(sheet, "=A1-A1", 0);
        formula(sheet, "=B1", 0);
        Check.enter(sheet, 0, 2, 2, "=1/0");
        Check.due("0 with an error", sheet.value(0, 2, 2), 0);
    }

    private static void products() {
        OfficeSheet sheet = Check.sheet(3, 3);
        formula(sheet, "=0.0001*0.4999", 0);
        formula(sheet, "=0.0001*0.5", 0);
        formula(sheet, "=0.0001*0.5001", 1);
        formula(sheet, "=0.0001*1.5", 2);
        formula(sheet, "=0.0001*2.5", 2);
        formula(sheet, "=0.0001*2.5001", 3);
        formula(sheet, "=0.0003*1.5", 4);
        formula(sheet, "=-0.0001*0.5", 0);
        formula(sheet, "=-0.0001*0.5001", -1);
        formula(sheet, "=-0.0001*1.5", -2);
        formula(sheet, "=-0.0001*2.5", -2);
        formula(sheet, "=0.0001*-2.5001", -3);
        formula(sheet, "=-0.0001*-1.5", 2);
        formula(sheet, "=1.2345*6.789", 83810);
        formula(sheet, "=100000*1", 1000000000);
        formula(sheet, "=316.2277*316.2277", 999999582);
    }

    private static void quotients() {
        OfficeSheet sheet = Check.sheet(3, 3);
        formula(sheet, "=1/3", 3333);
        formula(sheet, "=2/3", 6667);
        formula(sheet, "=-2/3", -6667);
        formula(sheet, "=2/-3", -6667);
        formula(sheet, "=-2/-3", 6667);
        formula(sheet, "=0.0001/2", 0);
        formula(sheet, "=0.0003/2", 2);
        formula(sheet, "=0.0005/2", 2);
        formula(sheet, "=0.0005/-2", -2);
        formula(sheet, "=-0.0001/2", 0);
        formula(sheet, "=-0.0003/2", -2);
        formula(sheet, "=0.0001/1.9999", 1);
        formula(sheet, "=-0.0001/1.9999", -1);
        formula(sheet, "=10/0.0001", 1000000000);
        formula(sheet, "=100000/100000", 10000);
        formula(sheet, "=0/5", 0);
        formula(sheet, "=1/3*3", 9999);
        formula(sheet, "=1*3/3", 10000);
    }

    private static void edges() {
        OfficeSheet sheet = Check.sheet(3, 3);
        Check.enter(sheet, 0, 0, 0, "100000");
        formula(sheet, "=A1+0", 1000000000);
        formula(sheet, "=-A1-0", -1000000000);
        formula(sheet, "=-A1+A1", 0);
        formula(sheet, "=99999.9999+0.0001", 1000000000);
        formula(sheet, "=-A1/1", -1000000000);
        formula(sheet, "=99999.9999*1", 999999999);
    }

    private static void blocks() {
        OfficeSheet sheet = Check.sheet(3, 3);
        Check.due("s of nothing", blockOf(sheet, "s(A1:B2)"), 0);
        Check.due("n of nothing", blockOf(sheet, "n(A1:B2)"), 0);
        Check.due("m of nothing", blockOf(sheet, "m(A1:B2)"), 0);
        Check.enter(sheet, 0, 0, 1, "-5");
        Check.due("m of one below 0", blockOf(sheet, "m(A1:B2)"), -50000);
        Check.enter(sheet, 0, 1, 1, "-7");
        Check.due("m of two below 0", blockOf(sheet, "m(A1:B2)"), -50000);
        Check.enter(sheet, 0, 1, 0, "=0-6");
        Check.due("s", blockOf(sheet, "s(A1:B2)"), -180000);
        Check.due("n", blockOf(sheet, "n(A1:B2)"), 30000);
        Check.due("n of a single empty cell", blockOf(sheet, "n(A1:A1)"), 0);
        Check.due("the other corners", blockOf(sheet, "s(A2:B1)"), -180000);
        Check.due("from the end", blockOf(sheet, "s(B2:A1)"), -180000);
        Check.due("of one row", blockOf(sheet, "s(A2:B2)"), -130000);
        Check.due("of one column", blockOf(sheet, "s(B2:B1)"), -120000);
        Check.enter(sheet, 0, 0, 0, "0");
        Check.due("0 is something", blockOf(sheet, "n(A1:B2)"), 40000);
        Check.due("and the greatest", blockOf(sheet, "m(A1:B2)"), 0);
        Check.enter(sheet, 0, 1, 1, "");
        Check.due("what is emptied is nothing", blockOf(sheet, "n(A1:B2)"), 30000);
        Check.due("blocks in a formula", blockOf(sheet, "s(A1:B2)*-n(A1:B2)"), 330000);
    }

    private static int blockOf(OfficeSheet sheet, String text) {
        Check.due("enter " + text, Check.enter(sheet, 0, 2, 2, "=" + text), NONE);
        return sheet.value(0, 2, 2);
    }

    private static void blocksFollowTheirLines() {
        OfficeSheet sheet = Check.sheet(4, 2);
        for (int row = 0; row < 4; row++) {
            Check.enter(sheet, 0, row, 0, row == 0 ? "1" : row == 1 ? "10" : row == 2 ? "100" : "1000");
        }
        Check.enter(sheet, 0, 3, 1, "=s(A1:A3)");
        Check.due("three rows", sheet.value(0, 3, 1), 1110000);
        sheet.move(0, ROW, 1, 3);
        Check.due("one moved out", sheet.value(0, 2, 1), 1010000);
        sheet.undo(0);
        sheet.move(0, ROW, 0, 3);
        Check.due("rows 2, 3, 4, 1: from 3 to 1", Check.shown(sheet, 0, ROW), "2 3 4 1");
        Check.due("the formula's own row is within, not its column", sheet.value(0, 2, 1), 11010000);
        sheet.move(0, ROW, 1, NONE);
        Check.due("rows 3, 2, 4, 1", sheet.value(0, 2, 1), 11110000);
        sheet.remove(0, ROW, 1);
        Check.due("a gone row within is not of it", sheet.value(0, 1, 1), 11010000);
        sheet.put(0, ROW, 0);
        Check.enter(sheet, 0, 1, 0, "0.5");
        Check.due("a new row within is", sheet.value(0, 2, 1), 11015000);
    }

    private static void referencesFollowTheirLines() {
        OfficeSheet sheet = Check.sheet(2, 2);
        Check.enter(sheet, 0, 0, 0, "5");
        Check.enter(sheet, 0, 0, 1, "=A1+1");
        sheet.put(0, ROW, NONE);
        sheet.put(0, COLUMN, NONE);
        Check.due("cells go with their lines", sheet.value(0, 1, 1), 50000);
        Check.due("and what refers to them", sheet.value(0, 1, 2), 60000);
        sheet.move(0, COLUMN, 1, 2);
        Check.due("also when moved", sheet.value(0, 1, 1), 60000);
        Check.enter(sheet, 0, 1, 2, "7");
        Check.due("new value", sheet.value(0, 1, 1), 80000);
    }

    /** Each cell reads the next one, so that whichever way they are gone through, most are read too early. */
    private static void chains() {
        OfficeSheet sheet = Check.sheet(9, 3);
        for (int i = 0; i < 26; i++) {
            String next = (char) ('A' + (i + 1) / 9) + "" + ((i + 1) % 9 + 1);
            Check.due("enter", Check.enter(sheet, 0, i % 9, i / 9, "=" + next + "+1"), NONE);
        }
        Check.enter(sheet, 0, 8, 2, "1");
        Check.due("the whole chain", sheet.value(0, 0, 0), 270000);
        Check.due("from the middle", sheet.value(0, 4, 1), 140000);
        OfficeSheet back = Check.sheet(9, 3);
        Check.enter(back, 0, 0, 0, "1");
        for (int i = 1; i < 27; i++) {
            String last = (char) ('A' + (i - 1) / 9) + "" + ((i - 1) % 9 + 1);
            Check.enter(back, 0, i % 9, i / 9, "=1+" + last);
        }
        Check.due("the chain backwards", back.value(0, 8, 2), 270000);
    }

    private static void latestWriteCounts() {
        OfficeSheet sheet = Check.sheet(1, 1);
        Check.meet(sheet);
        Check.enter(sheet, 0, 0, 0, "1");
        Check.enter(sheet, 2, 0, 0, "3");
        Check.enter(sheet, 1, 0, 0, "2");
        Check.meet(sheet);
        for (int office = 0; office < 3; office++) {
            Check.due("of the greatest maker", sheet.value(office, 0, 0), 30000);
        }
        sheet.put(0, ROW, NONE);
        Check.enter(sheet, 0, 1, 0, "4");
        Check.enter(sheet, 2, 0, 0, "5");
        Check.meet(sheet);
        for (int office = 0; office < 3; office++) {
            Check.due("of the greatest number", sheet.value(office, 1, 0), 40000);
        }
    }

    private static void eachOfficeHasItsOwn() {
        OfficeSheet sheet = Check.sheet(2, 1);
        Check.enter(sheet, 0, 0, 0, "=A2*2");
        Check.meet(sheet);
        Check.enter(sheet, 0, 1, 0, "3");
        Check.enter(sheet, 1, 1, 0, "4");
        Check.due("office 0", sheet.value(0, 0, 0), 60000);
        Check.due("office 1", sheet.value(1, 0, 0), 80000);
        Check.due("office 2", sheet.value(2, 0, 0), 0);
        sheet.remove(2, ROW, 1);
        Check.due("office 2 has an error", sheet.error(2, 0, 0), 2);
        Check.due("the others have none", sheet.error(0, 0, 0) + sheet.error(1, 0, 0), 0);
    }

    private static void refuses() {
        OfficeSheet sheet = Check.sheet(2, 1);
        Check.argument("value at office 3", () -> sheet.value(3, 0, 0));
        Check.argument("value at office -1", () -> sheet.value(-1, 5, 5));
        Check.index("value in row 2", () -> sheet.value(0, 2, 0));
        Check.index("value in row -1", () -> sheet.value(0, NONE, 0));
        Check.index("value in column 1", () -> sheet.value(0, 0, 1));
        Check.index("value in column -1", () -> sheet.value(0, 0, NONE));
        Check.index("value where nothing came", () -> sheet.value(1, 0, 0));
        Check.index("value in the greatest row", () -> sheet.value(0, Integer.MAX_VALUE, 0));
    }
}
