/** Terms: texts, tokens and faults. Each test is of the sentence that its comment tells. */
public final class TermsOfTextsTest {
    private static final int NONE = OfficeSheet.NONE;
    private static final int ROW = 0;
    private static final int COLUMN = 1;

    public static void main(String[] args) {
        twentyCharactersAtMost();
        perhapsAMinus();
        oneToSixDigits();
        perhapsAPointAndOneToFourDigits();
        numbersWithinTheirBounds();
        aFormulaIsAnEqualsSignAndAnExpression();
        termsFromTheLeft();
        factorsFromTheLeft();
        aNumberWithoutMinus();
        blocksHaveTheirParts();
        anExpressionInBrackets();
        aMinusAndAFactor();
        aCapitalLetter();
        lettersUpToTheLastOne();
        aNumberFromOneOn();
        rowsOfTwoDigits();
        noZeroInFront();
        namesOfTheOfficeThatEnters();
        numbersGoOnAsTokens();
        referencesGoOnAsTokens();
        singleCharacters();
        theFirstTokenThatCannotStand();
        aNumberThatIsNone();
        aReferenceToWhatIsNotShown();
        theEndIfMoreMustCome();
        Check.end();
    }

    private static void fault(String text, int at) {
        Check.fault(Check.sheet(2, 2), text, at);
    }

    /** The text can be entered, and is worth this when A1 is 3. */
    private static void worth(String text, int value) {
        OfficeSheet sheet = Check.filled(2, 2, "A1 3", "B2 " + text);
        Check.worth(sheet, "B2", value);
    }

    /** "TEXTS have at most 20 characters." */
    private static void twentyCharactersAtMost() {
        worth("=11111+11111+11111+1", 333340000);
        worth("=(((((((((1)))))))))", 10000);
        worth("=------------------1", 10000);
        worth("=1+1+1+1+1+1+1+1+1+1", 100000);
        worth("=1-1-1-1-1-1-1-1-1-1", -80000);
        worth("=s(A1:B1)-s(A1:A1)-7", -70000);
        OfficeSheet sheet = Check.sheet(1, 1);
        Check.draft(sheet, "=11111+11111+11111+1");
        Check.state("a 21st character", () -> sheet.type('1'));
        Check.due("is not there", sheet.enter(0, 0, 0), NONE);
        Check.worth(sheet, "A1", 333340000);
    }

    /** "A number is perhaps -" */
    private static void perhapsAMinus() {
        worth("5", 50000);
        worth("-5", -50000);
        worth("-0", 0);
        fault("--5", 1);
        fault("+5", 0);
        fault("5-", 1);
        fault("- 5", 1);
        fault("-(5)", 1);
        fault("(-5)", 0);
    }

    /** "one to six digits" */
    private static void oneToSixDigits() {
        worth("0", 0);
        worth("9", 90000);
        worth("12345", 123450000);
        worth("012345", 123450000);
        worth("000000", 0);
        worth("000007.5", 75000);
        worth("100000", 1000000000);
        worth("=012345", 123450000);
        fault("0012345", 0);
        fault("0000000", 0);
        fault("-0000000", 1);
        fault("=0000000", 1);
        fault("0000000.5", 0);
        fault("00000000000000000001", 0);
    }

    /** "perhaps a point and one to four digits" */
    private static void perhapsAPointAndOneToFourDigits() {
        worth("5.1", 51000);
        worth("5.12", 51200);
        worth("5.123", 51230);
        worth("5.1234", 51234);
        worth("5.0000", 50000);
        worth("0.0", 0);
        worth("=5.1234", 51234);
        fault("5.", 0);
        fault("-5.", 1);
        fault("=5.", 1);
        fault("5.12345", 0);
        fault("5.00000", 0);
        fault("=5.00000", 1);
        fault("0.000000000000000000", 0);
    }

    /** "(-100000 .. 100000)" */
    private static void numbersWithinTheirBounds() {
        worth("100000", 1000000000);
        worth("100000.0", 1000000000);
        worth("100000.0000", 1000000000);
        worth("99999.9999", 999999999);
        worth("-100000", -1000000000);
        worth("-100000.0000", -1000000000);
        worth("=-100000", -1000000000);
        fault("100000.0001", 0);
        fault("100000.1", 0);
        fault("100001", 0);
        fault("999999.9999", 0);
        fault("-100000.0001", 1);
        fault("-100001", 1);
        fault("=100000.0001", 1);
        fault("=-100000.0001", 2);
    }

    /** "A formula is = and an EXPRESSION" */
    private static void aFormulaIsAnEqualsSignAndAnExpression() {
        worth("=7", 70000);
        fault("=", 1);
        fault("==7", 1);
        fault(" =7", 0);
        fault("-=7", 1);
        fault("7=", 1);
        fault("=7=", 2);
        fault("A1", 0);
        fault("1+1", 1);
        fault("s(A1:A1)", 0);
    }

    /** "terms with + or - between .. (from the left)" */
    private static void termsFromTheLeft() {
        worth("=10-3-2", 50000);
        worth("=10-3+2", 90000);
        worth("=10+3-2", 110000);
        worth("=1+-1", 0);
        worth("=1--1", 20000);
        fault("=+1", 1);
        fault("=1++1", 3);
        fault("=1-+1", 3);
        fault("=1 1", 2);
    }

    /** "each of factors with * or / between (from the left)" */
    private static void factorsFromTheLeft() {
        worth("=12/3/2", 20000);
        worth("=12/3*2", 80000);
        worth("=12*3/2", 180000);
        worth("=2+3*4", 140000);
        worth("=2*3+4", 100000);
        worth("=10-4/2", 80000);
        worth("=8/2-1", 30000);
        worth("=2*-3", -60000);
        worth("=6/-3", -20000);
        fault("=*1", 1);
        fault("=/1", 1);
        fault("=1**2", 3);
        fault("=1*/2", 3);
        fault("=1+*2", 3);
        fault("=2(3)", 2);
    }

    /** "a factor is a number without -": a - before it makes a negative of all behind it that is a factor */
    private static void aNumberWithoutMinus() {
        OfficeSheet sheet = Check.filled(2, 2, "A1 -5", "B1 =-5", "A2 =--5");
        Check.worth(sheet, "A1", -50000);
        Check.worth(sheet, "B1", -50000);
        Check.holds(sheet, "B1", "=-5");
        Check.worth(sheet, "A2", 50000);
        Check.holds(sheet, "A2", "=--5");
    }

    /** "s, n, or m, a bracket, a reference, a colon, a reference and a bracket" */
    private static void blocksHaveTheirParts() {
        worth("=s(A1:B1)", 30000);
        worth("=n(A1:B1)", 10000);
        worth("=m(A1:B1)", 30000);
        for (String letter : new String[] {"s", "n", "m"}) {
            fault("=" + letter, 2);
            fault("=" + letter + "A1", 2);
            fault("=" + letter + "1", 2);
            fault("=" + letter + letter + "(A1:A1)", 2);
            fault("=" + letter + "(", 3);
            fault("=" + letter + "()", 3);
            fault("=" + letter + "(1:A1)", 3);
            fault("=" + letter + "(-A1:A1)", 3);
            fault("=" + letter + "((A1:A1))", 3);
            fault("=" + letter + "(A1)", 5);
            fault("=" + letter + "(A1+A1)", 5);
            fault("=" + letter + "(A1A1)", 5);
            fault("=" + letter + "(A1:)", 6);
            fault("=" + letter + "(A1:1)", 6);
            fault("=" + letter + "(A1::A1)", 6);
            fault("=" + letter + "(A1:A1:A1)", 8);
            fault("=" + letter + "(A1:A1+1)", 8);
            fault("=" + letter + "(A1:A1", 8);
            fault("=" + letter + "(A1:A1))", 9);
        }
        fault("=S(A1:A1)", 1);
        fault("=c(A1:A1)", 1);
        fault("=x(A1:A1)", 1);
        fault("=(A1:A1)", 4);
        fault("=A1:A1", 3);
    }

    /** "an expression in brackets" */
    private static void anExpressionInBrackets() {
        worth("=(7)", 70000);
        worth("=((7))", 70000);
        worth("=(1+2)*(3-1)", 60000);
        worth("=2*(3+4)", 140000);
        worth("=(-7)", -70000);
        fault("=()", 2);
        fault("=(1", 3);
        fault("=((1)", 5);
        fault("=(1))", 4);
        fault("=)1(", 1);
        fault("=(1+)", 4);
        fault("=(1)(2)", 4);
        fault("=(1)2", 4);
        fault("=[1]", 1);
    }

    /** "or - and a factor" */
    private static void aMinusAndAFactor() {
        worth("=-7", -70000);
        worth("=---7", -70000);
        worth("=-A1", -30000);
        worth("=-(1+2)", -30000);
        worth("=-s(A1:A1)", -30000);
        worth("=-2+3", 10000);
        worth("=5-2", 30000);
        worth("=2*-A1", -60000);
        worth("=-2*-3", 60000);
        fault("=-", 2);
        fault("=-+1", 2);
        fault("=-*1", 2);
        fault("=-)", 2);
        fault("=1-", 3);
    }

    /** "A reference is a capital letter" */
    private static void aCapitalLetter() {
        worth("=A1", 30000);
        fault("=a1", 1);
        fault("=b1", 1);
        fault("=s1", 2);
        fault("=@1", 1);
        fault("=[1", 1);
        fault("=1A", 2);
        fault("=AB1", 1);
    }

    /** "A for the column that the office shows as 0": and so on to Z, as far as columns are shown */
    private static void lettersUpToTheLastOne() {
        OfficeSheet sheet = Check.filled(1, 5, "A1 1", "B1 2", "C1 3", "D1 4", "E1 =A1", "E1 =D1");
        Check.worth(sheet, "E1", 40000);
        Check.fault(sheet, "=F1", 1);
        Check.fault(sheet, "=Z1", 1);
        OfficeSheet wide = Check.thirtyColumns();
        Check.due("enter into the 26th", Check.enter(wide, 2, 0, 25, "26"), NONE);
        Check.due("enter into the 27th", Check.enter(wide, 2, 0, 26, "27"), NONE);
        Check.due("Z is the 26th", Check.enter(wide, 2, 1, 0, "=Z1"), NONE);
        Check.due("its value", wide.value(2, 1, 0), 260000);
        Check.due("no letter is the 27th", Check.enter(wide, 2, 1, 0, "=[1"), 1);
        Check.due("nor in a block", Check.enter(wide, 2, 1, 0, "=s([1:A1)"), 3);
        Check.due("nor are two letters", Check.enter(wide, 2, 1, 0, "=AA1"), 1);
    }

    /** "and a number, 1 for the row shown as 0" */
    private static void aNumberFromOneOn() {
        OfficeSheet sheet = Check.filled(9, 1, "A1 1", "A2 2", "A8 8", "A9 =A1");
        Check.worth(sheet, "A9", 10000);
        Check.fill(sheet, 0, "A9 =A8");
        Check.worth(sheet, "A9", 80000);
        Check.fault(sheet, "=A0", 1);
        Check.fault(sheet, "=A10", 1);
        Check.fault(sheet, "=A", 1);
        Check.fault(sheet, "=A-1", 1);
    }

    private static OfficeSheet twentySevenRows() {
        OfficeSheet sheet = new OfficeSheet();
        for (int office = 0; office < 3; office++) {
            for (int i = 0; i < 9; i++) {
                sheet.put(office, ROW, NONE);
            }
        }
        sheet.put(0, COLUMN, NONE);
        Check.deliverAll(sheet, 0, 1);
        Check.deliverAll(sheet, 0, 2);
        return sheet;
    }

    /** "(1 .. 99": of which those can be read that are shown */
    private static void rowsOfTwoDigits() {
        OfficeSheet sheet = twentySevenRows();
        Check.due("rows", sheet.lines(0, ROW), 27);
        for (int row = 8; row < 27; row += 6) {
            Check.due("enter", Check.enter(sheet, 0, row, 0, "" + (row + 1)), NONE);
            Check.due("refer", Check.enter(sheet, 0, 0, 0, "=A" + (row + 1)), NONE);
            Check.due("the value of row " + (row + 1), sheet.value(0, 0, 0), 10000 * (row + 1));
        }
        Check.due("the last", Check.enter(sheet, 0, 0, 0, "=A27+A10"), NONE);
        Check.fault(sheet, "=A28", 1);
        Check.fault(sheet, "=A99", 1);
        Check.fault(sheet, "=s(A1:A28)", 6);
        Check.due("a block of two digits", Check.enter(sheet, 0, 0, 0, "=n(A10:A27)"), NONE);
        Check.due("its value", sheet.value(0, 0, 0), 30000);
    }

    /** "without a 0 in front)" */
    private static void noZeroInFront() {
        fault("=A01", 1);
        fault("=A02", 1);
        fault("=A00", 1);
        fault("=A0", 1);
        fault("=1+B01", 3);
        fault("=s(A1:A01)", 6);
        fault("=s(A01:A1)", 3);
        Check.fault(twentySevenRows(), "=A010", 1);
    }

    /** "the column that the office shows as 0": the office that enters it */
    private static void namesOfTheOfficeThatEnters() {
        OfficeSheet sheet = Check.filled(2, 1, "A1 1", "A2 2");
        Check.meet(sheet);
        sheet.move(1, ROW, 0, 1);
        sheet.put(1, COLUMN, 0);
        Check.due("enter at office 1", Check.enter(sheet, 1, 0, 1, "=A1"), NONE);
        Check.due("its row 1", sheet.value(1, 0, 1), 20000);
        Check.fault(sheet, "=B1", 1);
        sheet.move(1, ROW, 0, 1);
        Check.due("the line is meant, not the name", sheet.value(1, 1, 1), 20000);
    }

    /** "TOKENS are numbers (digits and point as long as they go on so)" */
    private static void numbersGoOnAsTokens() {
        fault("1.2.3", 0);
        fault("1..2", 0);
        fault("1.2.", 0);
        fault("...", 0);
        fault("=1.2.3", 1);
        fault("=1+1..2", 3);
        fault("=1+2.3.4*5", 3);
        fault("=2A1", 2);
        fault("=2.5A1", 4);
        fault("=12s(A1:A1)", 3);
        fault("5 5", 1);
    }

    /** "references (letter and up to two digits, as long as they go on)" */
    private static void referencesGoOnAsTokens() {
        OfficeSheet sheet = twentySevenRows();
        Check.fault(sheet, "=A123", 4);
        Check.fault(sheet, "=A100", 4);
        Check.fault(sheet, "=A10.5", 4);
        Check.fault(sheet, "=A1.5", 3);
        Check.fault(sheet, "=A1A1", 3);
        Check.fault(sheet, "=A283", 1);
        Check.fault(sheet, "=A990", 1);
        Check.fault(sheet, "=s(A101:A1)", 6);
        Check.fault(sheet, "=AA1", 1);
        Check.fault(sheet, "=A 1", 1);
        Check.fault(sheet, "=A.1", 1);
        Check.fault(sheet, "=A(1)", 1);
    }

    /** "and single characters" */
    private static void singleCharacters() {
        fault(" ", 0);
        fault("~", 0);
        fault("= 1", 1);
        fault("=1 ", 2);
        fault("=s (A1:A1)", 2);
        fault("=1+ 1", 3);
        fault("=sum(A1:A1)", 2);
        fault("=1,5", 2);
        fault("=$A$1", 1);
        fault("=\"", 1);
        fault("1e5", 1);
        fault("5%", 1);
    }

    /** "A FAULT is at the first token, by its first character, that cannot stand where it stands" */
    private static void theFirstTokenThatCannotStand() {
        fault("=1)+Z9", 2);
        fault("=Z9+)", 1);
        fault("=1++*", 3);
        fault("=(A9", 2);
        fault("=-Z9-1.23456", 2);
        fault("=1.23456-Z9", 1);
        fault("=1 1.23456", 2);
        fault("=s(A1:Z9", 6);
        fault("=1+1234567", 3);
        fault("=1 A1", 2);
        fault("x1234567", 0);
        fault("12:A1", 2);
    }

    /** "or is none (a number too great, or with five digits behind the point or more than six before, or with none" */
    private static void aNumberThatIsNone() {
        fault("=2*100000.0001", 3);
        fault("=2*0.12345", 3);
        fault("=2*1234567", 3);
        fault("=2*.5", 3);
        fault("=2*5.", 3);
        fault("=2*.", 3);
        fault(".5", 0);
        fault("-.5", 1);
        fault(".", 0);
        fault("-.", 1);
        fault("5.", 0);
        fault("=.12345", 1);
    }

    /** "a reference to what is not shown)" */
    private static void aReferenceToWhatIsNotShown() {
        OfficeSheet sheet = Check.sheet(2, 3);
        Check.fill(sheet, 0, "A1 =C2");
        Check.fault(sheet, "=C3", 1);
        Check.fault(sheet, "=D2", 1);
        Check.fault(sheet, "=D3", 1);
        sheet.remove(0, COLUMN, 2);
        Check.fault(sheet, "=C2", 1);
        sheet.remove(0, ROW, 1);
        Check.fault(sheet, "=B2", 1);
        Check.fault(sheet, "=s(A1:B2)", 6);
        sheet.undo(0);
        Check.fill(sheet, 0, "A1 =B2");
        sheet.put(1, ROW, NONE);
        sheet.put(1, COLUMN, NONE);
        Check.due("at an office that shows less", Check.enter(sheet, 1, 0, 0, "=B2"), 1);
    }

    /** "or at the end of the text, if more must come" */
    private static void theEndIfMoreMustCome() {
        String[] texts = {
            "-", "=", "=-", "=(", "=1+", "=1-", "=1*", "=1/", "=A1+", "=--", "=(1", "=((1)", "=(1+2", "=-(1",
            "=s", "=n", "=m", "=s(", "=s(A1", "=s(A1:", "=s(A1:A1", "=1+s(A1:B2", "=(s(A1:B2)", "=1*(2-(3/4)",
            "=(((((((((((((((((((", "=-------------------", "=-1+1+1+1+1+1+1+1+1+", "=((1*2)/(3+(4-5)))-(",
        };
        for (String text : texts) {
            fault(text, text.length());
        }
        Check.due("nothing must come behind nothing", Check.enter(Check.sheet(1, 1), 0, 0, 0, ""), NONE);
    }
}
