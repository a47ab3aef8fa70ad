/** Terms: what is written of contents. Each test is of the sentence that its comment tells. */
public final class TermsOfWritingTest {
    private static final int NONE = OfficeSheet.NONE;
    private static final int ROW = 0;
    private static final int COLUMN = 1;
    private static final String OPERATORS = "+-*/";

    public static void main(String[] args) {
        noNeedlessZeros();
        noPointBehindWhichNothingIs();
        numbersInFormulas();
        aFormulaAndItsParts();
        namesOfNow();
        aLineThatIsNotShown();
        aBlockWithALineThatIsNotShown();
        aColumnBehindTheTwentySixth();
        bracketsOfTheLeftPart();
        bracketsOfTheRightPart();
        bracketsBehindAMinus();
        noOtherBrackets();
        whatIsWrittenIsReadTheSame();
        longerThanATextMayBe();
        Check.end();
    }

    private static void written(String text, String want) {
        Check.holds(Check.filled(2, 2, "B2 " + text), "B2", want);
    }

    /** "WRITTEN, a number has no needless zeros" */
    private static void noNeedlessZeros() {
        written("0", "0");
        written("-0", "0");
        written("000000", "0");
        written("007", "7");
        written("-007", "-7");
        written("070", "70");
        written("100000", "100000");
        written("-100000", "-100000");
        written("0.5", "0.5");
        written("00.50", "0.5");
        written("1.5000", "1.5");
        written("1.0500", "1.05");
        written("1.0050", "1.005");
        written("1.0005", "1.0005");
        written("-0.0001", "-0.0001");
        written("10.01", "10.01");
        written("99999.9999", "99999.9999");
    }

    /** "and no point behind which nothing is" */
    private static void noPointBehindWhichNothingIs() {
        written("5.0", "5");
        written("5.0000", "5");
        written("-5.00", "-5");
        written("0.0", "0");
        written("-0.0000", "0");
        written("100000.0000", "100000");
    }

    /** "a number has no needless zeros": in a formula too */
    private static void numbersInFormulas() {
        written("=007.50", "=7.5");
        written("=5.0+000.0", "=5+0");
        written("=-0", "=-0");
        written("=-00.0", "=-0");
        written("=0.0001*100000", "=0.0001*100000");
    }

    /** "a formula = and its parts as above" */
    private static void aFormulaAndItsParts() {
        String[] texts = {
            "=1", "=A1", "=B2", "=-1", "=--A1", "=1+2", "=1-2", "=1*2", "=1/2", "=1+-2", "=1--2", "=1*-2", "=1/-A1",
            "=s(A1:B2)", "=n(B2:A1)", "=m(A2:B1)", "=s(A1:A1)", "=-n(A1:A1)", "=1+2-3*4/5", "=1*2/3-4+5",
        };
        for (String text : texts) {
            written(text, text);
        }
    }

    /** "references by the names that they have now" */
    private static void namesOfNow() {
        OfficeSheet sheet = Check.filled(2, 2, "A1 =B2-s(A1:B2)");
        sheet.put(0, ROW, NONE);
        Check.holds(sheet, "A2", "=B3-s(A2:B3)");
        sheet.put(0, COLUMN, 0);
        Check.holds(sheet, "A2", "=C3-s(A2:C3)");
        sheet.move(0, ROW, 2, NONE);
        Check.holds(sheet, "A3", "=C1-s(A3:C1)");
        sheet.move(0, COLUMN, 2, NONE);
        Check.holds(sheet, "B3", "=A1-s(B3:A1)");
        sheet.remove(0, ROW, 1);
        Check.holds(sheet, "B2", "=A1-s(B2:A1)");
        Check.due("not at an office that took less", sheet.deliver(1, 0, 1), 1);
        for (int n = 2; n <= 5; n++) {
            sheet.deliver(1, 0, n);
        }
        Check.due("which has the names of before", Check.printed(sheet, 1, 0, 0), "=B2-s(A1:B2)");
    }

    /** "(# for one with a line that is not shown" */
    private static void aLineThatIsNotShown() {
        OfficeSheet sheet = Check.filled(3, 3, "A1 =A3", "B1 =C1", "A2 =C3", "B2 =-A3*(C1+2)");
        sheet.remove(0, ROW, 2);
        Check.holds(sheet, "A1", "=#");
        Check.holds(sheet, "B1", "=C1");
        Check.holds(sheet, "A2", "=#");
        Check.holds(sheet, "B2", "=-#*(C1+2)");
        sheet.remove(0, COLUMN, 2);
        Check.holds(sheet, "B1", "=#");
        Check.holds(sheet, "A2", "=#");
        Check.holds(sheet, "B2", "=-#*(#+2)");
        sheet.undo(0);
        Check.holds(sheet, "B1", "=C1");
        Check.holds(sheet, "A2", "=#");
        sheet.put(0, ROW, 1);
        Check.holds(sheet, "A1", "=#");
    }

    /** "a block with such a one is its letter, (#))": with any of its four lines */
    private static void aBlockWithALineThatIsNotShown() {
        for (String letter : new String[] {"s", "n", "m"}) {
            OfficeSheet sheet = Check.filled(4, 4, "A1 =2*" + letter + "(B4:D2)");
            for (int kind = ROW; kind <= COLUMN; kind++) {
                for (int i = 1; i <= 3; i++) {
                    String shifted = kind == ROW ? "(B3:D2)" : "(B4:C2)";
                    sheet.remove(0, kind, i);
                    Check.holds(sheet, "A1", "=2*" + letter + (i == 2 ? shifted : "(#)"));
                    sheet.undo(0);
                    Check.holds(sheet, "A1", "=2*" + letter + "(B4:D2)");
                }
            }
        }
    }

    /** "or in a column behind the 26th" */
    private static void aColumnBehindTheTwentySixth() {
        OfficeSheet sheet = Check.thirtyColumns();
        Check.due("of the 26th", Check.enter(sheet, 2, 0, 0, "=Z1-Y1-s(Y1:Z2)"), NONE);
        Check.due("of the 25th", Check.enter(sheet, 2, 1, 0, "=Y1-n(X1:Y2)"), NONE);
        Check.due("Z", Check.printed(sheet, 2, 0, 0), "=Z1-Y1-s(Y1:Z2)");
        sheet.move(2, COLUMN, 29, 0);
        Check.due("the 27th has no name", Check.printed(sheet, 2, 0, 0), "=#-Z1-s(#)");
        Check.due("the 26th has one", Check.printed(sheet, 2, 1, 0), "=Z1-n(Y1:Z2)");
        Check.due("it is no error", sheet.error(2, 0, 0), 0);
        sheet.move(2, COLUMN, 29, 0);
        Check.due("the 27th and 28th", Check.printed(sheet, 2, 0, 0), "=#-#-s(#)");
        Check.due("the 26th and 27th", Check.printed(sheet, 2, 1, 0), "=#-n(#)");
    }

    private static boolean isSum(char operator) {
        return operator == '+' || operator == '-';
    }

    private static String inBrackets(String text, boolean brackets) {
        return brackets ? "(" + text + ")" : text;
    }

    /** "brackets only around: a sum or difference that is a part of a product or quotient" */
    private static void bracketsOfTheLeftPart() {
        for (char outer : OPERATORS.toCharArray()) {
            for (char inner : OPERATORS.toCharArray()) {
                String part = "A1" + inner + "2";
                String want = "=" + inBrackets(part, !isSum(outer) && isSum(inner)) + outer + "B1";
                written("=(" + part + ")" + outer + "B1", want);
            }
        }
    }

    /** "or stands to the right of + or -; a product or quotient to the right of * or /" */
    private static void bracketsOfTheRightPart() {
        for (char outer : OPERATORS.toCharArray()) {
            for (char inner : OPERATORS.toCharArray()) {
                String part = "A1" + inner + "2";
                String want = "=B1" + outer + inBrackets(part, isSum(inner) || !isSum(outer));
                written("=B1" + outer + "(" + part + ")", want);
            }
        }
    }

    /** "and any of these four behind the - of a negative" */
    private static void bracketsBehindAMinus() {
        for (char inner : OPERATORS.toCharArray()) {
            written("=-(A1" + inner + "2)", "=-(A1" + inner + "2)");
            written("=--((A1" + inner + "2))", "=--(A1" + inner + "2)");
            written("=-(A1" + inner + "2)*3", "=-(A1" + inner + "2)*3");
            written("=3+-(A1" + inner + "2)", "=3+-(A1" + inner + "2)");
        }
    }

    /** "brackets only around" these */
    private static void noOtherBrackets() {
        written("=(7)", "=7");
        written("=(((A1)))", "=A1");
        written("=(1+2)", "=1+2");
        written("=(1*2)", "=1*2");
        written("=-(7)", "=-7");
        written("=-(-7)", "=--7");
        written("=-(A1)", "=-A1");
        written("=-(s(A1:A2))", "=-s(A1:A2)");
        written("=(-7)*2", "=-7*2");
        written("=(-7)+2", "=-7+2");
        written("=2*(-7)", "=2*-7");
        written("=2-(-7)", "=2--7");
        written("=(A1)/(m(A1:A2))", "=A1/m(A1:A2)");
        written("=((1+2)-3)+4", "=1+2-3+4");
        written("=((1*2)/3)*4", "=1*2/3*4");
        written("=1+(2*3)+(4/5)", "=1+2*3+4/5");
        written("=-((-(7)))", "=--7");
    }

    /** What is written keeps the formula: entered again it is written, and worth, the same. */
    private static void whatIsWrittenIsReadTheSame() {
        String[] texts = {
            "=9-(8-(7-6))", "=9-(8-7)-6", "=9/(8/(7/6))", "=(9-8)*(7-6)", "=-(9-8)*-(7/6)", "=-(-(9*8))+(7)",
            "=9-(-(8)-7)", "=(9+8)/(7*6)", "=9*(8*7)/(6-5)", "=--(9-(8+7))", "=((9*8)-7)/6", "=9-((8-7)*6)",
        };
        for (String text : texts) {
            OfficeSheet sheet = Check.filled(2, 2, "A1 " + text);
            String first = Check.printed(sheet, 0, 0, 0);
            Check.fill(sheet, 0, "B2 " + first);
            Check.holds(sheet, "B2", first);
            Check.due("value of " + text, sheet.value(0, 1, 1), sheet.value(0, 0, 0));
        }
    }

    /** "TEXTS have at most 20 characters", which what is written may pass: names grow. */
    private static void longerThanATextMayBe() {
        OfficeSheet sheet = Check.filled(9, 1, "A1 =A2+A3+A4+A5+A6+A7+8");
        for (int i = 0; i < 9; i++) {
            sheet.put(1, ROW, NONE);
        }
        Check.deliverAll(sheet, 0, 1);
        String want = "=A11+A12+A13+A14+A15+A16+8";
        Check.due("written", Check.printed(sheet, 0, 9, 0), want);
        Check.due("so long", sheet.print(0, 9, 0), want.length());
        Check.due("its last character", sheet.out(want.length() - 1), '8');
        Check.index("none behind it", () -> sheet.out(want.length()));
    }
}
