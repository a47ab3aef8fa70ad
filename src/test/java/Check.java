/** Compares answers with those that are due, and drives a sheet in fewer words. */
final class Check {
    private static int wrong = 0;
    private static int checks = 0;

    private Check() {
    }

    static void due(String what, long got, long want) {
        checks++;
        if (got != want) {
            wrong++;
            System.out.println(what + ": got " + got + ", due is " + want);
        }
    }

    static void due(String what, String got, String want) {
        checks++;
        if (!got.equals(want)) {
            wrong++;
            System.out.println(what + ": got " + got + ", due is " + want);
        }
    }

    /** The very class counts, not one above it: ArrayIndexOutOfBoundsException would be a fault. */
    static void throwing(String what, Class<? extends RuntimeException> want, Runnable call) {
        String got;
        try {
            call.run();
            got = "nothing";
        } catch (RuntimeException e) {
            got = e.getClass().getSimpleName();
        }
        due(what + " throws", got, want.getSimpleName());
    }

    static void argument(String what, Runnable call) {
        throwing(what, IllegalArgumentException.class, call);
    }

    static void index(String what, Runnable call) {
        throwing(what, IndexOutOfBoundsException.class, call);
    }

    static void state(String what, Runnable call) {
        throwing(what, IllegalStateException.class, call);
    }

    static void draft(OfficeSheet sheet, String text) {
        sheet.cut(0);
        for (int i = 0; i < text.length(); i++) {
            sheet.type(text.charAt(i));
        }
    }

    static int enter(OfficeSheet sheet, int office, int row, int column, String text) {
        draft(sheet, text);
        return sheet.enter(office, row, column);
    }

    static String printed(OfficeSheet sheet, int office, int row, int column) {
        int length = sheet.print(office, row, column);
        StringBuilder text = new StringBuilder();
        for (int i = 0; i < length; i++) {
            text.append((char) sheet.out(i));
        }
        return text.toString();
    }

    static String shown(OfficeSheet sheet, int office, int kind) {
        StringBuilder text = new StringBuilder();
        for (int i = 0; i < sheet.lines(office, kind); i++) {
            text.append(i == 0 ? "" : " ").append(sheet.line(office, kind, i));
        }
        return text.toString();
    }

    /** A sheet whose office 0 has made so many rows, and then columns, from the first one to the last. */
    static OfficeSheet sheet(int rows, int columns) {
        OfficeSheet sheet = new OfficeSheet();
        for (int i = 0; i < rows; i++) {
            sheet.put(0, 0, i - 1);
        }
        for (int i = 0; i < columns; i++) {
            sheet.put(0, 1, i - 1);
        }
        return sheet;
    }

    /** Delivers all acts of an office to another one that this has not taken. */
    static void deliverAll(OfficeSheet sheet, int to, int from) {
        for (int n = sheet.known(to, from) + 1; n <= sheet.known(from, from); n++) {
            sheet.deliver(to, from, n);
        }
    }

    /** Delivers everything to everyone. */
    static void meet(OfficeSheet sheet) {
        for (int to = 0; to < 3; to++) {
            for (int from = 0; from < 3; from++) {
                if (to != from) {
                    deliverAll(sheet, to, from);
                }
            }
        }
    }

    static void end() {
        System.out.println(checks + " checks, " + wrong + " wrong");
        if (wrong != 0 || checks == 0) {
            System.exit(1);
        }
    }
}
