import java.util.ArrayList;
import java.util.List;

/** "What it is", and the example of README.md. Each test is of the words that its comment tells. */
public final class WhatItIsTest {
    private static final int NONE = OfficeSheet.NONE;
    private static final int ROW = 0;
    private static final int COLUMN = 1;
    private static final int ALL_CALLS = 512;

    public static void main(String[] args) {
        whileTheyAreApart();
        putInMovedAndRemoved();
        formulasThatFollowThem();
        inAnyOrder();
        itsOwnLatestActAlone();
        fiveHundredAndTwelveCalls();
        exampleOfTheReadme();
        Check.end();
    }

    /** "A calculating sheet that three offices change while they are apart" */
    private static void whileTheyAreApart() {
        OfficeSheet sheet = new OfficeSheet();
        for (int office = 0; office < 3; office++) {
            sheet.put(office, ROW, NONE);
            sheet.put(office, COLUMN, NONE);
            Check.enter(sheet, office, 0, 0, "=" + office + "+1");
            Check.due("its own row alone", Check.shown(sheet, office, ROW), String.valueOf(100 * office + 1));
            Check.due("its own column alone", Check.shown(sheet, office, COLUMN), String.valueOf(100 * office + 2));
        }
        Check.meet(sheet);
        for (int office = 0; office < 3; office++) {
            Check.due("all rows", Check.shown(sheet, office, ROW), "201 101 1");
            Check.due("all columns", Check.shown(sheet, office, COLUMN), "202 102 2");
            for (int i = 0; i < 3; i++) {
                Check.due("all cells", sheet.value(office, i, i), (3 - i) * 10000);
            }
        }
    }

    /** "rows and columns are put in, moved and removed" */
    private static void putInMovedAndRemoved() {
        for (int kind = ROW; kind <= COLUMN; kind++) {
            OfficeSheet sheet = new OfficeSheet();
            sheet.put(1, kind, NONE);
            sheet.put(1, kind, 0);
            sheet.put(1, kind, 0);
            Check.due("put in", Check.shown(sheet, 1, kind), "101 103 102");
            sheet.move(1, kind, 0, 2);
            Check.due("moved", Check.shown(sheet, 1, kind), "103 102 101");
            sheet.remove(1, kind, 1);
            Check.due("removed", Check.shown(sheet, 1, kind), "103 101");
            Check.due("none of the other kind", sheet.lines(1, 1 - kind), 0);
        }
    }

    /** "cells get numbers and formulas that follow them": numbers go with their lines, formulas with what they name */
    private static void formulasThatFollowThem() {
        OfficeSheet sheet = Check.filled(3, 2, "A1 2", "A2 3", "B3 =A1-A2*s(A1:A2)");
        Check.worth(sheet, "B3", -130000);
        sheet.move(0, ROW, 0, 2);
        Check.holds(sheet, "B2", "=A3-A1*s(A3:A1)");
        sheet.put(0, COLUMN, NONE);
        Check.holds(sheet, "C2", "=B3-B1*s(B3:B1)");
        Check.holds(sheet, "B3", "2");
        Check.worth(sheet, "C2", -130000);
        sheet.remove(0, ROW, 0);
        Check.holds(sheet, "C1", "=B2-#*s(#)");
        Check.failing(sheet, "C1", 2);
        sheet.undo(0);
        Check.worth(sheet, "C2", -130000);
    }

    /** "acts come to other offices in any order and are taken when their past is there": here in every order */
    private static void inAnyOrder() {
        List<int[]> orders = new ArrayList<>();
        addOrders(new int[] {0, 1, 2, 3, 4, 5}, 0, orders);
        Check.due("orders", orders.size(), 720);
        for (int[] order : orders) {
            comeInOrder(order);
        }
    }

    private static void addOrders(int[] order, int from, List<int[]> orders) {
        if (from == order.length) {
            orders.add(order.clone());
        }
        for (int i = from; i < order.length; i++) {
            swap(order, from, i);
            addOrders(order, from + 1, orders);
            swap(order, from, i);
        }
    }

    private static void swap(int[] order, int i, int j) {
        int kept = order[i];
        order[i] = order[j];
        order[j] = kept;
    }

    /** Three acts of office 0, three of office 1 that knew them, and each needs all before it. */
    private static void comeInOrder(int[] order) {
        OfficeSheet sheet = Check.filled(1, 1, "A1 4");
        Check.deliverAll(sheet, 1, 0);
        sheet.put(1, ROW, NONE);
        Check.enter(sheet, 1, 0, 0, "=A2*A2");
        sheet.move(1, ROW, 0, 1);
        boolean[] came = new boolean[order.length];
        int taken = 0;
        for (int act : order) {
            came[act] = true;
            Check.due("deliver", sheet.deliver(2, act / 3, act % 3 + 1), act == taken ? 1 : 2);
            while (taken < came.length && came[taken]) {
                taken++;
            }
            Check.due("known of office 0", sheet.known(2, 0), Math.min(taken, 3));
            Check.due("known of office 1", sheet.known(2, 1), Math.max(taken - 3, 0));
        }
        Check.due("none waits", sheet.waiting(2), 0);
        Check.due("rows", Check.shown(sheet, 2, ROW), "1 101");
        Check.due("the formula", Check.printed(sheet, 2, 1, 0), "=A1*A1");
        Check.due("its value", sheet.value(2, 1, 0), 160000);
    }

    /** "and each office takes back its own latest act alone" */
    private static void itsOwnLatestActAlone() {
        OfficeSheet sheet = Check.sheet(1, 3);
        Check.meet(sheet);
        for (int office = 0; office < 3; office++) {
            Check.enter(sheet, office, 0, office, "1");
            Check.enter(sheet, office, 0, office, "2");
            Check.meet(sheet);
        }
        for (int office = 0; office < 3; office++) {
            Check.due("taken back", sheet.undo(office) ? 1 : 0, 1);
            Check.meet(sheet);
            for (int column = 0; column < 3; column++) {
                int want = column <= office ? 10000 : 20000;
                Check.due("column " + column + " after office " + office, sheet.value(2, 0, column), want);
            }
        }
    }

    /** "An object is used for at most 512 calls after it has been made": it answers them all. */
    private static void fiveHundredAndTwelveCalls() {
        OfficeSheet sheet = new OfficeSheet();
        sheet.put(0, ROW, NONE);
        sheet.put(0, COLUMN, NONE);
        int calls = 2;
        for (int n = 3; n <= 40; n++) {
            sheet.cut(0);
            sheet.type((char) ('0' + n % 10));
            sheet.enter(0, 0, 0);
            calls += 3;
        }
        for (int n = 40; n >= 1; n--) {
            sheet.deliver(1, 0, n);
            calls++;
        }
        for (; calls < ALL_CALLS - 3; calls++) {
            Check.due("a value of the 40th act", sheet.value(calls % 2, 0, 0), 0);
        }
        Check.due("call 510", sheet.print(1, 0, 0), 1);
        Check.due("call 511", sheet.out(0), '0');
        Check.due("call 512", sheet.known(1, 0), 40);
    }

    /** The calls of README.md have the answers that it tells. */
    private static void exampleOfTheReadme() {
        OfficeSheet sheet = new OfficeSheet();
        Check.due("a row", sheet.put(0, 0, OfficeSheet.NONE), 1);
        Check.due("a column", sheet.put(0, 1, OfficeSheet.NONE), 2);
        Check.due("a column behind it", sheet.put(0, 1, 0), 3);
        Check.due("typed", sheet.type('2'), 1);
        Check.due("entered", sheet.enter(0, 0, 0), NONE);
        sheet.cut(0);
        String formula = "=A1/8";
        for (int i = 0; i < formula.length(); i++) {
            Check.due("typed", sheet.type(formula.charAt(i)), i + 1);
        }
        Check.due("entered", sheet.enter(0, 0, 1), NONE);
        Check.due("value", sheet.value(0, 0, 1), 2500);
        Check.due("typed", sheet.type('+'), 6);
        Check.due("fault", sheet.enter(0, 0, 1), 6);
        Check.due("deliver 5", sheet.deliver(1, 0, 5), 2);
        Check.due("waiting", sheet.waiting(1), 1);
        for (int n = 1; n <= 4; n++) {
            Check.due("deliver " + n, sheet.deliver(1, 0, n), 1);
        }
        Check.due("known", sheet.known(1, 0), 5);
        sheet.move(1, 1, 0, 1);
        Check.due("printed", sheet.print(1, 0, 0), 5);
        Check.due("OUT", sheet.out(1), 'B');
        Check.due("undo", sheet.undo(0) ? 1 : 0, 1);
        Check.due("nothing at office 0", sheet.print(0, 0, 1), 0);
        Check.due("still there at office 1", sheet.value(1, 0, 0), 2500);
    }
}
