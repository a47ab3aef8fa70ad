/** Terms: numbers and values. Each test is of the sentence that its comment tells. */
public final class TermsOfValuesTest {
    private static final int ROW = 0;
    private static final int COLUMN = 1;
    private static final int GREATEST = 1000000000;

    public static void main(String[] args) {
        numbersHaveBounds();
        roundedIntoTheBounds();
        eachKindOfFormula();
        nothingIsZero();
        aNumberIsItself();
        productsAreRounded();
        productHalvesGoToTheEvenOne();
        quotientsAreRounded();
        quotientHalvesGoToTheEvenOne();
        eachStepIsRounded();
        aReferenceIsTheValueOfTheCell();
        blocksWhicheverLineComesFirst();
        blocksOfOneCellAndOfAll();
        blocksInTheOrderOfNow();
        blocksOfShownLinesAlone();
        countOfWhatHoldsSomething();
        mostOfWhatHoldsSomething();
        mostIsZeroForNone();
        sumFromZeroOn();
        sumCellByCellRowByRow();
        sumInTheOrderOfNow();
        Check.end();
    }

    private static void worth(String formula, int value, String... cells) {
        OfficeSheet sheet = Check.filled(3, 3, cells);
        Check.fill(sheet, 0, "C3 " + formula);
        Check.worth(sheet, "C3", value);
    }

    private static void failing(String formula, int error, String... cells) {
        OfficeSheet sheet = Check.filled(3, 3, cells);
        Check.fill(sheet, 0, "C3 " + formula);
        Check.failing(sheet, "C3", error);
    }

    /** "NUMBERS are ten-thousandths, -1000000000 .. 1000000000." */
    private static void numbersHaveBounds() {
        worth("=99999.9999+0.0001", GREATEST);
        failing("=100000+0.0001", 4);
        worth("=-99999.9999-0.0001", -GREATEST);
        failing("=-100000-0.0001", 4);
        worth("=-100000--100000", 0);
        worth("=7*14285.7142", 999999994);
        failing("=7*14285.7143", 4);
        worth("=-7*14285.7142", -999999994);
        failing("=-7*14285.7143", 4);
        worth("=50000*2", GREATEST);
        worth("=50000*-2", -GREATEST);
        failing("=100000*100000", 4);
        failing("=-100000*100000", 4);
        worth("=10/0.0001", GREATEST);
        failing("=10.0001/0.0001", 4);
        worth("=-10/0.0001", -GREATEST);
        failing("=10.0001/-0.0001", 4);
        failing("=100000/0.0001", 4);
        worth("=s(A1:B1)", GREATEST, "A1 99999.9999", "B1 0.0001");
        failing("=s(A1:B1)", 4, "A1 100000", "B1 0.0001");
        worth("=s(A1:B1)", -GREATEST, "A1 -99999.9999", "B1 -0.0001");
        failing("=s(A1:B1)", 4, "A1 -100000", "B1 -0.0001");
        worth("=m(A1:B1)", GREATEST, "A1 100000", "B1 -100000");
        worth("=-A1", -GREATEST, "A1 100000");
        worth("=-A1", GREATEST, "A1 -100000");
    }

    /** "x * y .. rounded to ten-thousandths": what is rounded to a number is one */
    private static void roundedIntoTheBounds() {
        worth("=22.3241*4479.4639", GREATEST);
        worth("=1.5*66666.6667", GREATEST);
        failing("=4.5887*21792.6646", 4);
        worth("=22.3241*-4479.4639", -GREATEST);
        worth("=-1.5*66666.6667", -GREATEST);
        failing("=4.5887*-21792.6646", 4);
    }

    /** "FORMULAS: a number; a reference ..; the negative of one; + - * / of two; and SUM, COUNT, MOST .. of a block" */
    private static void eachKindOfFormula() {
        String[] cells = {"A1 7", "B1 -2", "A2 9", "B2 4"};
        worth("=1.25", 12500, cells);
        worth("=B1", -20000, cells);
        worth("=-A1", -70000, cells);
        worth("=-B1", 20000, cells);
        worth("=-(A1-B1)", -90000, cells);
        worth("=A1+B1", 50000, cells);
        worth("=A1-B1", 90000, cells);
        worth("=A1*B1", -140000, cells);
        worth("=A1/B1", -35000, cells);
        worth("=s(A1:B2)", 180000, cells);
        worth("=n(A1:B2)", 40000, cells);
        worth("=m(A1:B2)", 90000, cells);
        worth("=m(B1:B1)", -20000, cells);
    }

    /** "a cell that holds nothing is 0" */
    private static void nothingIsZero() {
        worth("=A1", 0);
        worth("=A1+5", 50000);
        worth("=5*A1", 0);
        worth("=-A1", 0);
        OfficeSheet sheet = Check.filled(3, 3, "A1 7", "B1 =A1+1", "A1 ");
        Check.worth(sheet, "A1", 0);
        Check.worth(sheet, "B1", 10000);
        Check.worth(sheet, "C3", 0);
    }

    /** "a number is itself" */
    private static void aNumberIsItself() {
        String[] texts = {"0", "-0", "0.0001", "-0.0001", "100000", "-100000", "99999.9999", "3.14"};
        int[] values = {0, 0, 1, -1, GREATEST, -GREATEST, 999999999, 31400};
        for (int i = 0; i < texts.length; i++) {
            OfficeSheet sheet = Check.filled(1, 1, "A1 " + texts[i]);
            Check.worth(sheet, "A1", values[i]);
        }
    }

    /** "x * y .. rounded to ten-thousandths": below and above the half */
    private static void productsAreRounded() {
        worth("=0.0001*0.4999", 0);
        worth("=0.0001*0.5001", 1);
        worth("=0.0003*0.4999", 1);
        worth("=0.0003*0.5001", 2);
        worth("=0.0005*0.5001", 3);
        worth("=-0.0001*0.4999", 0);
        worth("=-0.0001*0.5001", -1);
        worth("=0.0003*-0.4999", -1);
        worth("=-0.0005*-0.5001", 3);
        worth("=0.0001*0.9999", 1);
        worth("=0.0001*0.0001", 0);
    }

    /** "x * y .. halves to the even one" */
    private static void productHalvesGoToTheEvenOne() {
        worth("=0.0001*0.5", 0);
        worth("=0.0003*0.5", 2);
        worth("=0.0005*0.5", 2);
        worth("=0.0007*0.5", 4);
        worth("=-0.0001*0.5", 0);
        worth("=-0.0003*0.5", -2);
        worth("=0.0005*-0.5", -2);
        worth("=-0.0007*0.5", -4);
        worth("=-0.0003*-0.5", 2);
        worth("=99999.9999*0.5", 500000000);
        worth("=99999.9997*0.5", 499999998);
    }

    /** "x / y .. rounded to ten-thousandths": below and above the half */
    private static void quotientsAreRounded() {
        worth("=1/3", 3333);
        worth("=2/3", 6667);
        worth("=-1/3", -3333);
        worth("=2/-3", -6667);
        worth("=-2/-3", 6667);
        worth("=0.0001/2.0001", 0);
        worth("=0.0001/1.9999", 1);
        worth("=0.0005/2.0001", 2);
        worth("=0.0005/1.9999", 3);
        worth("=-0.0005/2.0001", -2);
        worth("=-0.0005/1.9999", -3);
        worth("=0.0001/100000", 0);
    }

    /** "x / y .. halves to the even one" */
    private static void quotientHalvesGoToTheEvenOne() {
        worth("=0.0001/2", 0);
        worth("=0.0003/2", 2);
        worth("=0.0005/2", 2);
        worth("=0.0007/2", 4);
        worth("=-0.0001/2", 0);
        worth("=-0.0003/2", -2);
        worth("=0.0005/-2", -2);
        worth("=0.0007/-2", -4);
        worth("=-0.0003/-2", 2);
        worth("=-0.0005/-2", 2);
        worth("=0.0003/0.0002", 15000);
        worth("=1.0001/8", 1250);
        worth("=1.0004/8", 1250);
        worth("=1.0012/8", 1252);
    }

    /** "x * y and x / y are rounded": each by itself, from the left */
    private static void eachStepIsRounded() {
        worth("=1/3*3", 9999);
        worth("=2/3*3", 20001);
        worth("=3*1/3", 10000);
        worth("=0.0001*0.5*2", 0);
        worth("=0.0001*(0.5*2)", 1);
        worth("=1/3+1/3+1/3", 9999);
    }

    /** "A reference is the value of the cell." */
    private static void aReferenceIsTheValueOfTheCell() {
        worth("=A1", 3333, "A1 =1/3");
        worth("=A1*3", 9999, "A1 =1/3");
        worth("=A1", -50000, "A1 =-B1", "B1 5");
        OfficeSheet sheet = Check.filled(3, 3, "A1 =B1", "B1 5", "C3 =A1");
        Check.fill(sheet, 0, "B1 6");
        Check.worth(sheet, "C3", 60000);
    }

    /** "rows that stand from one of its rows to the other .., whichever comes first, and columns likewise" */
    private static void blocksWhicheverLineComesFirst() {
        String[] cells = {"A1 1", "B1 10", "C1 100", "A2 1000", "B2 10000", "B3 30000"};
        String[] blocks = {"A1:B2", "B2:A1", "A2:B1", "B1:A2"};
        for (String block : blocks) {
            worth("=s(" + block + ")", 110110000, cells);
            worth("=n(" + block + ")", 40000, cells);
            worth("=m(" + block + ")", 100000000, cells);
        }
        worth("=s(A1:C1)", 1110000, cells);
        worth("=s(C1:A1)", 1110000, cells);
        worth("=s(B1:B3)", 400100000, cells);
        worth("=s(B3:B1)", 400100000, cells);
    }

    /** "A block has all cells in rows that stand from one of its rows to the other": both, and one that is both */
    private static void blocksOfOneCellAndOfAll() {
        String[] cells = {"A1 1", "C1 2", "A3 4", "B2 8"};
        worth("=s(B2:B2)", 80000, cells);
        worth("=n(B2:B2)", 10000, cells);
        worth("=m(B1:B1)", 0, cells);
        OfficeSheet sheet = Check.filled(9, 5, "A1 1", "E1 2", "A8 4", "E8 8", "C4 16", "E9 =s(A1:E8)", "D9 =n(A1:E8)");
        Check.worth(sheet, "E9", 310000);
        Check.worth(sheet, "D9", 50000);
    }

    /** "in the office's order": that of now, at this office */
    private static void blocksInTheOrderOfNow() {
        OfficeSheet sheet = Check.filled(4, 2, "A1 1", "A2 10", "A3 100", "A4 1000", "B1 =s(A1:A2)");
        Check.worth(sheet, "B1", 110000);
        Check.meet(sheet);
        sheet.move(1, ROW, 3, 0);
        Check.due("another row within", sheet.value(1, 0, 1), 10110000);
        Check.worth(sheet, "B1", 110000);
        sheet.move(1, ROW, 2, 3);
        Check.due("the last row is the other's end", Check.shown(sheet, 1, ROW), "1 4 3 2");
        Check.due("all rows", sheet.value(1, 0, 1), 11110000);
        sheet.move(1, ROW, 3, OfficeSheet.NONE);
        Check.due("turned round", Check.shown(sheet, 1, ROW), "2 1 4 3");
        Check.due("side by side", sheet.value(1, 1, 1), 110000);
    }

    /** "A block has all cells in rows that stand from one of its rows to the other in the office's order" */
    private static void blocksOfShownLinesAlone() {
        OfficeSheet sheet = Check.filled(3, 3, "A1 1", "A2 10", "A3 100", "B1 1000", "B2 =1/0",
                "C1 =s(A1:A3)", "C2 =n(A1:A3)", "C3 =s(A1:B1)");
        sheet.remove(0, ROW, 1);
        Check.worth(sheet, "C1", 1010000);
        sheet.undo(0);
        Check.worth(sheet, "C1", 1110000);
        Check.worth(sheet, "C2", 30000);
        sheet.put(0, COLUMN, 0);
        Check.fill(sheet, 0, "B1 0.5");
        Check.worth(sheet, "D3", 10015000);
    }

    /** "COUNT is how many of them hold something (times 10000)" */
    private static void countOfWhatHoldsSomething() {
        worth("=n(A1:B2)", 0);
        worth("=n(A1:B2)", 10000, "B2 0");
        worth("=n(A1:B2)", 20000, "B2 0", "A1 =B1");
        worth("=n(A1:B2)", 40000, "A1 =1/0", "B1 =2*100000", "A2 -5", "B2 =A1");
        worth("=n(A1:B2)", 10000, "A1 1", "B1 2", "A1 ");
        worth("=n(A1:B2)", 0, "C1 1", "A3 1", "C2 1", "B3 1");
        worth("=n(A1:B2)*n(A1:A1)", 20000, "A1 5", "B2 5");
    }

    /** "MOST is of those that hold something" */
    private static void mostOfWhatHoldsSomething() {
        worth("=m(A1:B2)", -10000, "A1 -1");
        worth("=m(A1:B2)", -10000, "B2 -1");
        worth("=m(A1:B2)", -10000, "A1 -2", "B1 -1", "B2 -3");
        worth("=m(A1:B2)", -GREATEST, "A2 -100000");
        worth("=m(A1:B2)", 0, "A1 -5", "B1 0");
        worth("=m(A1:B2)", 0, "A1 -5", "B1 =A2");
        worth("=m(A1:B2)", 20000, "A1 2", "B1 2", "A2 1");
        worth("=m(A1:B2)", -50000, "A1 -5", "B1 7", "B1 ");
        worth("=m(A1:B2)", 30000, "A1 1", "B1 2", "A2 3", "C1 9", "A3 9");
    }

    /** "MOST .., 0 for none" */
    private static void mostIsZeroForNone() {
        worth("=m(A1:B2)", 0);
        worth("=m(A1:A1)", 0);
        worth("=m(A1:B2)", 0, "A1 5", "A1 ");
        worth("=m(A1:B2)-5", -50000, "C1 9");
    }

    /** "a SUM is made cell by cell, from 0 on" */
    private static void sumFromZeroOn() {
        worth("=s(A1:B2)", 0);
        worth("=s(A1:A1)", 0);
        worth("=s(A1:B2)", -50000, "B2 -5");
        worth("=s(A1:B2)", 0, "A1 5", "B2 -5");
    }

    /** "a SUM is made cell by cell, .. row by row": and what is no number on the way is error 4 */
    private static void sumCellByCellRowByRow() {
        String[] blocks = {"A1:B2", "B2:A1", "A2:B1", "B1:A2"};
        for (String block : blocks) {
            String formula = "=s(" + block + ")";
            failing(formula, 4, "A1 100000", "B1 1", "A2 -1");
            worth(formula, GREATEST, "A1 100000", "B1 -1", "A2 1");
            failing(formula, 4, "A1 -100000", "B1 -1", "A2 1");
            worth(formula, -GREATEST, "A1 -100000", "B1 1", "A2 -1");
            failing(formula, 4, "B1 100000", "A2 0.0001", "B2 -0.0001");
            worth(formula, GREATEST, "B1 100000", "A2 -0.0001", "B2 0.0001");
        }
    }

    /** "row by row": of the office's order, which a move changes */
    private static void sumInTheOrderOfNow() {
        OfficeSheet sheet = Check.filled(3, 2, "A1 100000", "A2 -1", "B1 1", "A3 =s(A1:B2)");
        Check.failing(sheet, "A3", 4);
        sheet.move(0, ROW, 1, OfficeSheet.NONE);
        Check.worth(sheet, "A3", GREATEST);
        sheet.undo(0);
        Check.failing(sheet, "A3", 4);
        OfficeSheet turned = Check.filled(2, 3, "A1 -1", "B1 100000", "C1 1", "A2 =s(A1:C1)");
        Check.worth(turned, "A2", GREATEST);
        turned.move(0, COLUMN, 0, 2);
        Check.due("columns B, C, A: the block is of C, A", turned.value(0, 1, 2), 0);
        turned.move(0, COLUMN, 0, 1);
        Check.due("columns C, B, A", Check.shown(turned, 0, COLUMN), "5 4 3");
        Check.due("100001 on the way", turned.error(0, 1, 2), 4);
    }
}
