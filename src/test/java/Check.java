/** Compares answers with those that are due, and drives a sheet in fewer words. */
final class Check {
    private static int wrong = 0;
    private static int checks = 0;

    private Check() {
    }

    static void due(String what, long got, long want) {
        checks++;
        if (got != want) {
            wrong++;
            System.out.println(what + ": got " + got + ", due is " + want);
        }
    }

    static void due(String what, String got, String want) {
        checks++;
        if (!got.equals(want)) {
            wrong++;
            System.out.println(what + ": got " + got + ", due is " + want);
        }
    }

    /** The very class counts, not one above it: ArrayIndexOutOfBoundsException would be a fault. */
    static void throwing(String what, Class<? extends RuntimeException> want, Runnable call) {
        String got;
        try {
            call.run();
            got = "nothing";
        } catch (RuntimeException e) {
            got = e.getClass().getSimpleName();
        }
        due(what + " throws", got, want.getSimpleName());
    }

    static void argument(String what, Runnable call) {
        throwing(what, IllegalArgumentException.class, call);
    }

    static void index(String what, Runnable call) {
        throwing(what, IndexOutOfBoundsException.class, call);
    }

    static void state(String what, Runnable call) {
        throwing(what, IllegalStateException.class, call);
    }

    static void draft(OfficeSheet sheet, String text) {
        sheet.cut(0);
        for (int i = 0; i < text.length(); i++) {
            sheet.type(text.charAt(i));
        }
    }

    static int enter(OfficeSheet sheet, int office, int row, int column, String text) {
        draft(sheet, text);
        return sheet.enter(office, row, column);
    }

    /** The text has its fault there when office 0 enters it into its first cell, and is no act. */
    static void fault(OfficeSheet sheet, String text, int at) {
        int acts = sheet.known(0, 0);
        due("fault of " + text, enter(sheet, 0, 0, 0, text), at);
        due("no act for " + text, sheet.known(0, 0), acts);
    }

    static String printed(OfficeSheet sheet, int office, int row, int column) {
        int length = sheet.print(office, row, column);
        StringBuilder text = new StringBuilder();
        for (int i = 0; i < length; i++) {
            text.append((char) sheet.out(i));
        }
        return text.toString();
    }

    static String shown(OfficeSheet sheet, int office, int kind) {
        StringBuilder text = new StringBuilder();
        int lines = sheet.lines(office, kind);
        for (int i = 0; i < lines; i++) {
            text.append(i == 0 ? "" : " ").append(sheet.line(office, kind, i));
        }
        return text.toString();
    }

    /** A sheet whose office 0 has made so many rows, and then columns, from the first one to the last. */
    static OfficeSheet sheet(int rows, int columns) {
        OfficeSheet sheet = new OfficeSheet();
        for (int i = 0; i < rows; i++) {
            sheet.put(0, 0, i - 1);
        }
        for (int i = 0; i < columns; i++) {
            sheet.put(0, 1, i - 1);
        }
        return sheet;
    }

    /** Such a sheet with contents of office 0, each told as the cell's name, a space and the text. */
    static OfficeSheet filled(int rows, int columns, String... cells) {
        OfficeSheet sheet = sheet(rows, columns);
        fill(sheet, 0, cells);
        return sheet;
    }

    static void fill(OfficeSheet sheet, int office, String... cells) {
        for (String cell : cells) {
            String text = cell.substring(cell.indexOf(' ') + 1);
            due("enter " + cell, enter(sheet, office, row(cell), column(cell), text), OfficeSheet.NONE);
        }
    }

    /** The row of a name with one digit, as the sheet counts. */
    private static int row(String name) {
        return name.charAt(1) - '1';
    }

    private static int column(String name) {
        return name.charAt(0) - 'A';
    }

    /** Office 0 finds this value in a cell, and no error. */
    static void worth(OfficeSheet sheet, String name, int value) {
        String text = name + " with " + printed(sheet, 0, row(name), column(name));
        due("value of " + text, sheet.value(0, row(name), column(name)), value);
        due("error of " + text, sheet.error(0, row(name), column(name)), 0);
    }

    /** Office 0 finds this error in a cell, and so no value. */
    static void failing(OfficeSheet sheet, String name, int error) {
        String text = name + " with " + printed(sheet, 0, row(name), column(name));
        due("error of " + text, sheet.error(0, row(name), column(name)), error);
        due("value of " + text, sheet.value(0, row(name), column(name)), 0);
    }

    /** Office 0 finds this written of a cell. */
    static void holds(OfficeSheet sheet, String name, String text) {
        due("what " + name + " holds", printed(sheet, 0, row(name), column(name)), text);
    }

    /** Delivers all acts of an office to another one that this has not taken. */
    static void deliverAll(OfficeSheet sheet, int to, int from) {
        int last = sheet.known(from, from);
        for (int n = sheet.known(to, from) + 1; n <= last; n++) {
            sheet.deliver(to, from, n);
        }
    }

    /** Delivers everything to everyone. */
    static void meet(OfficeSheet sheet) {
        for (int to = 0; to < 3; to++) {
            for (int from = 0; from < 3; from++) {
                if (to != from) {
                    deliverAll(sheet, to, from);
                }
            }
        }
    }

    /**
     * A sheet whose office 2 shows 30 columns and 5 rows. Office 0 removes its five columns and puts five
     * others, again and again, while office 1, which knows no removal of them yet, removes the same ones and
     * takes that back, later by stamp: so they are there. The rows are for the stamps: thanks to them office
     * 0's columns come before office 1's own.
     */
    static OfficeSheet thirtyColumns() {
        OfficeSheet sheet = new OfficeSheet();
        for (int i = 0; i < 5; i++) {
            sheet.put(1, 1, OfficeSheet.NONE);
            sheet.put(2, 1, OfficeSheet.NONE);
        }
        for (int i = 0; i < 5; i++) {
            sheet.put(0, 0, OfficeSheet.NONE);
        }
        for (int turn = 0; turn < 4; turn++) {
            for (int i = 0; i < 5; i++) {
                sheet.put(0, 1, OfficeSheet.NONE);
            }
            deliverAll(sheet, 1, 0);
            for (int i = 0; i < 5 && turn < 3; i++) {
                sheet.remove(0, 1, 0);
                sheet.remove(1, 1, i);
                sheet.undo(1);
            }
        }
        deliverAll(sheet, 2, 0);
        deliverAll(sheet, 2, 1);
        return sheet;
    }

    static void end() {
        System.out.println(checks + " checks, " + wrong + " wrong");
        if (wrong != 0 || checks == 0) {
            System.exit(1);
        }
    }
}
