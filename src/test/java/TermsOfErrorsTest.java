/** Terms: errors, and which goes before which. Each test is of the sentence that its comment tells. */
public final class TermsOfErrorsTest {
    private static final int ROW = 0;
    private static final int COLUMN = 1;
    private static final String OPERATORS = "+-*/";
    // Cells with the errors 1, 2 and 4, once row 4 is gone.
    private static final String[] WRONG = {"A1 =1/0", "B1 =A4", "C1 =100000+1"};
    private static final String[] WRONG_NAMES = {"A1", "B1", "C1"};
    private static final int[] WRONG_ERRORS = {1, 2, 4};

    public static void main(String[] args) {
        noneIsZero();
        oneIsAQuotientByZero();
        twoIsALineOfAReference();
        twoIsALineOfABlock();
        twoIsNotALineWithin();
        threeReadsItself();
        threeReadsItselfByOthers();
        threeReadsOneThatReadsItself();
        threeByBlocks();
        readsOnlyIfAllLinesAreShown();
        readsByTheOrderOfNow();
        emptiedCellsReadNothing();
        fourIsNoNumber();
        fourOnTheWay();
        threeGoesBeforeAllOthers();
        anErrorOfAPartIsThatOfTheWhole();
        partsGoBeforeOwnOne();
        partsGoBeforeOwnFour();
        leftGoesFirst();
        firstOfABlockGoesFirst();
        firstOfABlockByTheOrderOfNow();
        cellsGoBeforeTheSumsOwnFour();
        countHasNoneButTwo();
        countHasThree();
        Check.end();
    }

    /** A sheet with the wrong cells in its first row, two more rows, and so many columns. */
    private static OfficeSheet wrong() {
        OfficeSheet sheet = Check.filled(4, 4, WRONG);
        sheet.remove(0, ROW, 3);
        return sheet;
    }

    private static void failing(OfficeSheet sheet, String formula, int error) {
        Check.fill(sheet, 0, "C3 " + formula);
        Check.failing(sheet, "C3", error);
    }

    private static void failing(String formula, int error, String... cells) {
        failing(Check.filled(3, 3, cells), formula, error);
    }

    private static void sound(String formula, int value, String... cells) {
        OfficeSheet sheet = Check.filled(3, 3, cells);
        Check.fill(sheet, 0, "C3 " + formula);
        Check.worth(sheet, "C3", value);
    }

    /** "The error of a cell's value; 0 for none." */
    private static void noneIsZero() {
        OfficeSheet sheet = Check.filled(2, 2, "A1 5", "B1 =A1*2");
        Check.worth(sheet, "A1", 50000);
        Check.worth(sheet, "B1", 100000);
        Check.worth(sheet, "A2", 0);
    }

    /** "1: a quotient by 0." */
    private static void oneIsAQuotientByZero() {
        failing("=1/0", 1);
        failing("=0/0", 1);
        failing("=-1/0", 1);
        failing("=1/-0", 1);
        failing("=1/0.0000", 1);
        failing("=1/A1", 1);
        failing("=1/A1", 1, "A1 0");
        failing("=1/(5-5)", 1);
        failing("=1/(0.0001*0.5)", 1);
        failing("=1/n(A1:B2)", 1);
        failing("=100000/0", 1);
        sound("=0/1", 0);
        sound("=1/0.0001", 100000000);
        sound("=1/-0.0001", -100000000);
    }

    /** "2: a line of a reference .. is not shown." */
    private static void twoIsALineOfAReference() {
        OfficeSheet sheet = Check.filled(3, 3, "A1 =C3", "B2 5");
        Check.worth(sheet, "A1", 0);
        sheet.remove(0, ROW, 2);
        Check.failing(sheet, "A1", 2);
        sheet.undo(0);
        Check.worth(sheet, "A1", 0);
        sheet.remove(0, COLUMN, 2);
        Check.failing(sheet, "A1", 2);
        sheet.remove(0, ROW, 2);
        Check.failing(sheet, "A1", 2);
        sheet.put(0, COLUMN, 1);
        sheet.put(0, ROW, 1);
        Check.failing(sheet, "A1", 2);
    }

    /** "2: a line of a .. block is not shown.": any of the four */
    private static void twoIsALineOfABlock() {
        for (String letter : new String[] {"s", "n", "m"}) {
            OfficeSheet sheet = Check.filled(4, 4, "A1 =" + letter + "(B4:D2)");
            for (int kind = ROW; kind <= COLUMN; kind++) {
                for (int i = 1; i <= 3; i += 2) {
                    sheet.remove(0, kind, i);
                    Check.failing(sheet, "A1", 2);
                    sheet.undo(0);
                    Check.worth(sheet, "A1", 0);
                }
            }
        }
    }

    /** "a block, which is two rows and two columns": other lines are not lines of it */
    private static void twoIsNotALineWithin() {
        OfficeSheet sheet = Check.filled(4, 4, "A1 =s(B2:D4)", "C3 5", "B2 1", "D4 2");
        Check.worth(sheet, "A1", 80000);
        sheet.remove(0, ROW, 2);
        Check.worth(sheet, "A1", 30000);
        sheet.undo(0);
        sheet.remove(0, COLUMN, 2);
        Check.worth(sheet, "A1", 30000);
    }

    /** "3: the cell reads .. itself" */
    private static void threeReadsItself() {
        failing("=C3", 3);
        failing("=-C3", 3);
        failing("=1+(2*C3)", 3);
        failing("=0*C3", 3);
        sound("=C2", 0);
        sound("=B3", 0);
    }

    /** "3: the cell reads, by whatever cells, itself" */
    private static void threeReadsItselfByOthers() {
        OfficeSheet sheet = Check.filled(3, 3, "A1 =B1", "B1 =A1", "C1 =5");
        Check.failing(sheet, "A1", 3);
        Check.failing(sheet, "B1", 3);
        Check.worth(sheet, "C1", 50000);
        OfficeSheet ring = Check.filled(3, 3, "A1 =B1", "B1 =C1", "C1 =A2", "A2 =B2", "B2 =C2", "C2 =A3", "A3 =B3",
                "B3 =C3", "C3 =A1");
        for (int cell = 0; cell < 9; cell++) {
            Check.due("a ring of all cells", ring.error(0, cell / 3, cell % 3), 3);
        }
        Check.fill(ring, 0, "C3 4");
        for (int cell = 0; cell < 9; cell++) {
            Check.due("no ring", ring.value(0, cell / 3, cell % 3), 40000);
        }
    }

    /** "or one that reads itself so" */
    private static void threeReadsOneThatReadsItself() {
        OfficeSheet sheet = Check.filled(3, 3, "A1 =A1", "B1 =A1", "C1 =B1+1", "A2 =s(C1:C1)", "B2 =n(A2:A2)", "C2 =A3");
        Check.failing(sheet, "B1", 3);
        Check.failing(sheet, "C1", 3);
        Check.failing(sheet, "A2", 3);
        Check.failing(sheet, "B2", 3);
        Check.worth(sheet, "C2", 0);
    }

    /** "it READS the cells of its .. blocks": also those that hold nothing, or are for COUNT */
    private static void threeByBlocks() {
        failing("=s(A1:C3)", 3);
        failing("=s(C3:C3)", 3);
        failing("=n(C3:C3)", 3);
        failing("=m(C1:C3)", 3);
        failing("=n(A3:C3)*0", 3);
        sound("=s(A1:B3)", 0);
        sound("=n(A1:C2)", 0);
        failing("=A1", 3, "A1 =m(B2:C3)");
    }

    /** "(it READS the cells of its references and blocks, if all their lines are shown)" */
    private static void readsOnlyIfAllLinesAreShown() {
        OfficeSheet sheet = Check.filled(3, 3, "A1 =s(A1:C3)", "B1 =A3", "C1 =n(C1:A3)", "B2 =m(B3:B1)");
        Check.failing(sheet, "A1", 3);
        sheet.remove(0, ROW, 2);
        Check.failing(sheet, "A1", 2);
        Check.failing(sheet, "B1", 2);
        Check.failing(sheet, "C1", 2);
        Check.failing(sheet, "B2", 2);
        OfficeSheet through = Check.filled(3, 3, "A1 =A3", "A3 =A1", "B1 =A3+B1");
        Check.failing(through, "A1", 3);
        through.remove(0, ROW, 2);
        Check.failing(through, "A1", 2);
        Check.failing(through, "B1", 3);
    }

    /** "3: the cell reads .. itself": at this office, in the order of now */
    private static void readsByTheOrderOfNow() {
        OfficeSheet sheet = Check.filled(3, 1, "A1 1", "A2 2", "A3 =s(A1:A2)");
        Check.meet(sheet);
        sheet.move(1, ROW, 2, 0);
        Check.due("moved into its own block", sheet.error(1, 1, 0), 3);
        Check.worth(sheet, "A3", 30000);
        sheet.undo(1);
        Check.due("moved back", sheet.value(1, 2, 0), 30000);
    }

    /** "3: the cell reads": what it holds now */
    private static void emptiedCellsReadNothing() {
        OfficeSheet sheet = Check.filled(2, 2, "A1 =B1", "B1 =A1");
        Check.fill(sheet, 0, "B1 ");
        Check.worth(sheet, "A1", 0);
        sheet.undo(0);
        Check.failing(sheet, "A1", 3);
    }

    /** "4: a result .. that is no number." */
    private static void fourIsNoNumber() {
        failing("=100000+0.0001", 4);
        failing("=-100000-0.0001", 4);
        failing("=100000*1.0001", 4);
        failing("=100000/0.9999", 4);
        failing("=s(A1:A2)", 4, "A1 100000", "A2 0.0001");
    }

    /** "4: a result (also on the way)" */
    private static void fourOnTheWay() {
        failing("=100000+1-1", 4);
        failing("=100000*2/2", 4);
        failing("=0*(100000+1)", 4);
        failing("=-(100000+1)+5", 4);
        failing("=s(A1:C1)", 4, "A1 100000", "B1 1", "C1 -1");
        failing("=A1-1", 4, "A1 =100000+1");
        sound("=100000-1+1", 1000000000);
        sound("=m(A1:C1)", 1000000000, "A1 100000", "B1 100000", "C1 -1");
    }

    /** "3 goes before all others" */
    private static void threeGoesBeforeAllOthers() {
        for (int i = 0; i < WRONG.length; i++) {
            OfficeSheet sheet = wrong();
            failing(sheet, "=" + WRONG_NAMES[i] + "+C3", 3);
            failing(sheet, "=C3+" + WRONG_NAMES[i], 3);
            failing(sheet, "=s(A1:C3)", 3);
            failing(sheet, "=" + WRONG_NAMES[i] + "*n(C3:C3)", 3);
            Check.fill(sheet, 0, "A3 =A3", "C3 =" + WRONG_NAMES[i] + "-A3");
            Check.failing(sheet, "C3", 3);
        }
        failing("=C3/0", 3);
        failing("=1/0-C3", 3);
        failing("=100000+1+C3", 3);
        OfficeSheet sheet = Check.filled(4, 3, "C3 =A4*C3", "B3 =C3-A4");
        sheet.remove(0, ROW, 3);
        Check.failing(sheet, "C3", 3);
        Check.failing(sheet, "B3", 3);
    }

    /** "otherwise an error of a part is that of the whole" */
    private static void anErrorOfAPartIsThatOfTheWhole() {
        for (int i = 0; i < WRONG.length; i++) {
            OfficeSheet sheet = wrong();
            String name = WRONG_NAMES[i];
            failing(sheet, "=" + name, WRONG_ERRORS[i]);
            failing(sheet, "=-" + name, WRONG_ERRORS[i]);
            failing(sheet, "=s(" + name + ":" + name + ")", WRONG_ERRORS[i]);
            failing(sheet, "=m(" + name + ":" + name + ")", WRONG_ERRORS[i]);
            for (int k = 0; k < OPERATORS.length(); k++) {
                failing(sheet, "=" + name + OPERATORS.charAt(k) + "2", WRONG_ERRORS[i]);
                failing(sheet, "=2" + OPERATORS.charAt(k) + name, WRONG_ERRORS[i]);
                failing(sheet, "=0" + OPERATORS.charAt(k) + name, WRONG_ERRORS[i]);
            }
        }
    }

    /** "before its own 1" */
    private static void partsGoBeforeOwnOne() {
        OfficeSheet sheet = wrong();
        failing(sheet, "=B1/0", 2);
        failing(sheet, "=C1/0", 4);
        failing(sheet, "=(100000+1)/0", 4);
        failing(sheet, "=-B1/(1-1)", 2);
        failing(sheet, "=1/0/C1", 1);
        failing(sheet, "=5/(0*C1)", 4);
    }

    /** "before its own .. 4" */
    private static void partsGoBeforeOwnFour() {
        OfficeSheet sheet = wrong();
        failing(sheet, "=100000*A1", 1);
        failing(sheet, "=100000+B1", 2);
        failing(sheet, "=100000*2*A1", 4);
        failing(sheet, "=100000*(2*A1)", 1);
    }

    /** "of two parts the left one's first" */
    private static void leftGoesFirst() {
        for (int left = 0; left < WRONG.length; left++) {
            for (int k = 0; k < OPERATORS.length(); k++) {
                OfficeSheet sheet = wrong();
                for (int right = 0; right < WRONG.length; right++) {
                    String formula = "=" + WRONG_NAMES[left] + OPERATORS.charAt(k) + WRONG_NAMES[right];
                    failing(sheet, formula, WRONG_ERRORS[left]);
                }
            }
        }
        failing("=(2+1/0)*(100000+1)", 1);
        failing("=(100000+1)-1/0", 4);
    }

    /** "of a block the first one's (row by row" */
    private static void firstOfABlockGoesFirst() {
        String[] blocks = {"A1:B2", "B2:A1", "A2:B1", "B1:A2"};
        for (String block : blocks) {
            failing("=s(" + block + ")", 1, "B1 =1/0", "A2 =100000+1");
            failing("=m(" + block + ")", 1, "B1 =1/0", "A2 =100000+1");
            failing("=s(" + block + ")", 4, "B1 =100000+1", "A2 =1/0");
            failing("=m(" + block + ")", 4, "A2 =100000+1", "B2 =1/0", "A1 3");
        }
    }

    /** "(row by row, of the office's order)" */
    private static void firstOfABlockByTheOrderOfNow() {
        OfficeSheet sheet = Check.filled(3, 3, "A1 =1/0", "B1 5", "A2 =100000+1", "C3 =s(A1:B2)");
        Check.failing(sheet, "C3", 1);
        sheet.move(0, ROW, 0, 1);
        Check.failing(sheet, "C3", 4);
        sheet.move(0, ROW, 0, 1);
        Check.failing(sheet, "C3", 1);
        OfficeSheet turned = Check.filled(3, 3, "A1 =1/0", "B1 =100000+1", "C3 =m(A1:B1)");
        Check.failing(turned, "C3", 1);
        turned.move(0, COLUMN, 0, 1);
        Check.failing(turned, "C3", 4);
    }

    /** "an error of a part is that of the whole, before its own .. 4": also when it stands behind */
    private static void cellsGoBeforeTheSumsOwnFour() {
        failing("=s(A1:C1)", 1, "A1 100000", "B1 1", "C1 =1/0");
        failing("=s(A1:C1)", 1, "A1 100000", "B1 =1/0", "C1 1");
        failing("=s(A1:B1)", 4, "A1 100000", "B1 1", "C1 =1/0");
    }

    /** "COUNT has none but 2" */
    private static void countHasNoneButTwo() {
        OfficeSheet sheet = wrong();
        Check.fill(sheet, 0, "C3 =n(A1:C1)");
        Check.worth(sheet, "C3", 30000);
        Check.fill(sheet, 0, "C3 =n(D1:C3)");
        Check.failing(sheet, "C3", 3);
        Check.fill(sheet, 0, "C3 =n(D1:C1)");
        Check.worth(sheet, "C3", 10000);
        sheet.remove(0, COLUMN, 3);
        Check.failing(sheet, "C3", 2);
    }

    /** "(and 3)" */
    private static void countHasThree() {
        failing("=n(A1:B2)", 3, "B2 =B2");
        failing("=n(A1:B2)", 3, "A1 =B1", "B1 =A1");
        failing("=n(A1:B2)", 3, "A1 =C3");
        failing("=n(A1:B2)+5", 3, "A1 =n(A1:A1)");
    }
}
