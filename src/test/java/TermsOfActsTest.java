import java.util.function.IntConsumer;

/** Terms: offices, acts, how they are taken, and stamps. Each test is of the sentence that its comment tells. */
public final class TermsOfActsTest {
    private static final int NONE = OfficeSheet.NONE;
    private static final int ROW = 0;
    private static final int COLUMN = 1;
    private static final int MOST = 40;
    private static final int[] NO_OFFICES = {-1, 3, 4, 100, Integer.MIN_VALUE, Integer.MAX_VALUE};
    private static final int[] NO_KINDS = {-1, 2, 3, Integer.MIN_VALUE, Integer.MAX_VALUE};

    public static void main(String[] args) {
        officesAreThree();
        noOtherOffices();
        kindsAreTwo();
        noOtherKinds();
        numberedFromOneOn();
        noNumberForWhatIsNoAct();
        noStampForWhatIsNoAct();
        fortyPutsAndRemoves();
        fortyMoves();
        fortyEntries();
        fortyUndos();
        fortyOfEachOffice();
        makersTakeAtOnce();
        takenOnce();
        takenWhenThePastIsThere();
        waitsForAllOfThePast();
        firstActsMayWait();
        waitingIsNotTaken();
        takenAsSoonAsThePastIsThere();
        againAndAgain();
        oneMoreThanTheGreatestTaken();
        theGreatestTakenIsNotOneThatWaits();
        theGreatestIsNotHowMany();
        allActsHaveStamps();
        byNumberThenByMaker();
        Check.end();
    }

    /** "OFFICES are 0, 1, 2." */
    private static void officesAreThree() {
        OfficeSheet sheet = new OfficeSheet();
        for (int office = 0; office <= 2; office++) {
            Check.due("a row of office " + office, sheet.put(office, ROW, NONE), 100 * office + 1);
            Check.due("a column of office " + office, sheet.put(office, COLUMN, NONE), 100 * office + 2);
            Check.due("an entry of office " + office, Check.enter(sheet, office, 0, 0, "7"), NONE);
            Check.due("its value at office " + office, sheet.value(office, 0, 0), 70000);
            for (int to = 0; to <= 2; to++) {
                Check.due(to + " knows of " + office, sheet.known(to, office), to == office ? 3 : 0);
            }
        }
    }

    /** "IllegalArgumentException: an office .. is none of those there are." */
    private static void noOtherOffices() {
        OfficeSheet sheet = Check.filled(2, 2, "A1 7");
        for (int none : NO_OFFICES) {
            Check.argument("put at " + none, () -> sheet.put(none, ROW, NONE));
            Check.argument("move at " + none, () -> sheet.move(none, ROW, 0, 1));
            Check.argument("remove at " + none, () -> sheet.remove(none, ROW, 0));
            Check.argument("enter at " + none, () -> sheet.enter(none, 0, 0));
            Check.argument("undo at " + none, () -> sheet.undo(none));
            Check.argument("deliver to " + none, () -> sheet.deliver(none, 0, 1));
            Check.argument("deliver from " + none, () -> sheet.deliver(1, none, 1));
            Check.argument("deliver between " + none, () -> sheet.deliver(none, none, 1));
            Check.argument("known at " + none, () -> sheet.known(none, 0));
            Check.argument("known of " + none, () -> sheet.known(0, none));
            Check.argument("waiting at " + none, () -> sheet.waiting(none));
            Check.argument("lines at " + none, () -> sheet.lines(none, ROW));
            Check.argument("line at " + none, () -> sheet.line(none, ROW, 0));
            Check.argument("value at " + none, () -> sheet.value(none, 0, 0));
            Check.argument("error at " + none, () -> sheet.error(none, 0, 0));
            Check.argument("also at " + none, () -> sheet.also(none, 0, 0));
            Check.argument("print at " + none, () -> sheet.print(none, 0, 0));
        }
    }

    /** "LINES are ROWS (kind 0) and COLUMNS (kind 1)" */
    private static void kindsAreTwo() {
        OfficeSheet sheet = new OfficeSheet();
        sheet.put(0, 0, NONE);
        sheet.put(0, 0, NONE);
        sheet.put(0, 1, NONE);
        Check.due("lines of kind 0", Check.shown(sheet, 0, 0), "2 1");
        Check.due("lines of kind 1", Check.shown(sheet, 0, 1), "3");
        Check.due("kind 0 are the rows of cells", Check.enter(sheet, 0, 1, 0, "7"), NONE);
        Check.index("kind 1 are their columns", () -> sheet.enter(0, 0, 1));
    }

    /** "IllegalArgumentException: .. kind, is none of those there are." */
    private static void noOtherKinds() {
        OfficeSheet sheet = Check.sheet(2, 2);
        for (int none : NO_KINDS) {
            Check.argument("put of kind " + none, () -> sheet.put(0, none, NONE));
            Check.argument("move of kind " + none, () -> sheet.move(0, none, 0, 1));
            Check.argument("remove of kind " + none, () -> sheet.remove(0, none, 0));
            Check.argument("lines of kind " + none, () -> sheet.lines(0, none));
            Check.argument("line of kind " + none, () -> sheet.line(0, none, 0));
        }
    }

    /** "An ACT is made at an office, which numbers its own 1, 2, .." */
    private static void numberedFromOneOn() {
        OfficeSheet sheet = new OfficeSheet();
        Check.argument("no act yet", () -> sheet.deliver(1, 0, 1));
        Check.due("the first", sheet.put(0, ROW, NONE), 1);
        Check.argument("no act 0", () -> sheet.deliver(1, 0, 0));
        Check.argument("no second yet", () -> sheet.deliver(1, 0, 2));
        sheet.deliver(1, 0, 1);
        Check.due("another office has its own numbers", sheet.put(1, ROW, NONE), 101);
        sheet.deliver(0, 1, 1);
        Check.due("those of others take no number", sheet.put(0, ROW, NONE), 2);
        sheet.move(0, ROW, 0, NONE);
        sheet.remove(0, ROW, 0);
        sheet.undo(0);
        Check.due("all kinds of acts take one", sheet.put(0, COLUMN, NONE), 6);
        Check.enter(sheet, 0, 0, 0, "1");
        Check.due("entries too", sheet.put(0, COLUMN, NONE), 8);
    }

    /** "or the place (from 0) of its fault, and there is no act"; "if what it says still counts there" */
    private static void noNumberForWhatIsNoAct() {
        OfficeSheet sheet = Check.sheet(1, 1);
        Check.meet(sheet);
        Check.due("a fault", Check.enter(sheet, 0, 0, 0, "=1+"), 3);
        Check.due("takes no number", sheet.put(0, ROW, NONE), 3);
        Check.meet(sheet);
        sheet.remove(1, ROW, 0);
        Check.meet(sheet);
        Check.due("what does not count is not undone", sheet.undo(0) ? 1 : 0, 0);
        Check.due("and takes no number", sheet.put(0, ROW, NONE), 4);
        Check.index("a refused call", () -> sheet.put(0, ROW, 9));
        Check.due("takes no number either", sheet.put(0, ROW, NONE), 5);
    }

    /** "there is no act", and so no stamp */
    private static void noStampForWhatIsNoAct() {
        OfficeSheet sheet = Check.sheet(1, 1);
        Check.meet(sheet);
        Check.due("a fault", Check.enter(sheet, 0, 0, 0, "=1+"), 3);
        Check.due("again", sheet.enter(0, 0, 0), 3);
        sheet.put(0, ROW, NONE);
        sheet.put(1, ROW, NONE);
        Check.meet(sheet);
        Check.due("equal numbers", Check.shown(sheet, 0, ROW), "101 3 1");
    }

    /** The office has so many acts, of which the last is made by a call that is still refused one later. */
    private static void lastActs(OfficeSheet sheet, int office, String what, IntConsumer act) {
        while (sheet.known(office, office) < MOST - 1) {
            act.accept(sheet.known(office, office));
        }
        int last = sheet.known(office, office);
        act.accept(last);
        Check.due("the 40th act, a " + what, sheet.known(office, office), MOST);
        Check.state("a 41st " + what, () -> act.accept(last));
        Check.state("a 41st " + what + " again", () -> act.accept(last));
        Check.due("no act more", sheet.known(office, office), MOST);
    }

    /** "(at most 40)", for put() and remove() */
    private static void fortyPutsAndRemoves() {
        OfficeSheet sheet = new OfficeSheet();
        lastActs(sheet, 1, "put", n -> {
            if (n % 2 == 0 || n == MOST - 1) {
                Check.due("line", sheet.put(1, ROW, NONE), 101 + n);
            } else {
                sheet.remove(1, ROW, 0);
            }
        });
        OfficeSheet removed = Check.sheet(2, 0);
        lastActs(removed, 0, "remove", n -> {
            if (n < MOST - 1) {
                removed.move(0, ROW, 0, 1);
            } else {
                removed.remove(0, ROW, 0);
            }
        });
    }

    /** "(at most 40)", for move() */
    private static void fortyMoves() {
        OfficeSheet sheet = Check.sheet(2, 0);
        lastActs(sheet, 0, "move", n -> sheet.move(0, ROW, 0, 1));
        Check.due("the 40th counts", Check.shown(sheet, 0, ROW), "1 2");
    }

    /** "(at most 40)", for enter(), "IllegalStateException: 40 acts": with a fault or not */
    private static void fortyEntries() {
        OfficeSheet sheet = Check.sheet(1, 1);
        lastActs(sheet, 0, "enter", n -> Check.due("enter", Check.enter(sheet, 0, 0, 0, "" + n), NONE));
        Check.due("the 40th counts", sheet.value(0, 0, 0), 390000);
        Check.draft(sheet, "");
        Check.state("nothing is an entry too", () -> sheet.enter(0, 0, 0));
        Check.draft(sheet, "=(");
        Check.state("its fault is not told", () -> sheet.enter(0, 0, 0));
    }

    /** "(at most 40)", for undo() */
    private static void fortyUndos() {
        OfficeSheet sheet = Check.sheet(2, 0);
        lastActs(sheet, 0, "undo", n -> Check.due("undo", sheet.undo(0) ? 1 : 0, 1));
        Check.due("the 40th counts", Check.shown(sheet, 0, ROW), "1 2");
    }

    /** "An ACT is made at an office, which numbers its own 1, 2, .. (at most 40)": those of others do not count. */
    private static void fortyOfEachOffice() {
        OfficeSheet sheet = new OfficeSheet();
        for (int office = 0; office < 3; office++) {
            sheet.put(office, ROW, NONE);
            sheet.put(office, ROW, NONE);
            for (int n = 3; n <= MOST; n++) {
                sheet.move(office, ROW, 0, 1);
            }
            if (office < 2) {
                Check.deliverAll(sheet, office + 1, office);
            }
        }
        Check.due("the second's are not taken", sheet.known(2, 1), 0);
        Check.due("since they wait for the first's", sheet.waiting(2), MOST);
        Check.deliverAll(sheet, 2, 0);
        Check.due("all acts of all offices", sheet.known(2, 0) + sheet.known(2, 1) + sheet.known(2, 2), 3 * MOST);
        Check.due("none waits", sheet.waiting(2), 0);
        Check.state("no act more", () -> sheet.move(2, ROW, 0, 1));
    }

    /** "An office TAKES an act once: those that it makes at once" */
    private static void makersTakeAtOnce() {
        OfficeSheet sheet = new OfficeSheet();
        for (int office = 0; office < 3; office++) {
            sheet.put(office, ROW, NONE);
            Check.due("taken", sheet.known(office, office), 1);
            Check.due("shown", sheet.lines(office, ROW), 1);
            Check.due("not waiting", sheet.waiting(office), 0);
        }
    }

    /** "An office TAKES an act once" */
    private static void takenOnce() {
        OfficeSheet sheet = Check.sheet(2, 0);
        Check.due("taken", sheet.deliver(1, 0, 1), 1);
        sheet.put(1, ROW, 0);
        sheet.remove(1, ROW, 0);
        for (int n = 0; n < 3; n++) {
            Check.due("came before", sheet.deliver(1, 0, 1), 0);
            Check.due("no line more", Check.shown(sheet, 1, ROW), "101");
            Check.due("no act more", sheet.known(1, 0), 1);
        }
        Check.due("each office by itself", sheet.deliver(2, 0, 1), 1);
    }

    /** "others when they come and all acts are taken that their maker had taken before it (its PAST)" */
    private static void takenWhenThePastIsThere() {
        OfficeSheet sheet = Check.sheet(1, 1);
        sheet.deliver(1, 0, 1);
        sheet.put(1, COLUMN, NONE);
        Check.due("without its past", sheet.deliver(2, 1, 1), 2);
        Check.due("an act that is not of its past", sheet.deliver(2, 0, 2), 2);
        Check.due("its past", sheet.deliver(2, 0, 1), 1);
        Check.due("both are taken", sheet.known(2, 0) + sheet.known(2, 1), 3);
        sheet.deliver(1, 0, 2);
        Check.due("its maker took more only later", sheet.put(1, ROW, NONE), 102);
        Check.due("with its past", sheet.deliver(2, 1, 2), 1);
    }

    /** "an act that came before its past WAITS": though all but one act of it may be there */
    private static void waitsForAllOfThePast() {
        OfficeSheet sheet = new OfficeSheet();
        sheet.put(0, ROW, NONE);
        sheet.put(1, ROW, NONE);
        sheet.put(1, ROW, NONE);
        Check.deliverAll(sheet, 2, 0);
        Check.deliverAll(sheet, 2, 1);
        sheet.put(2, COLUMN, NONE);
        sheet.put(2, ROW, 0);
        Check.due("at office 0 without office 1's", sheet.deliver(0, 2, 2), 2);
        Check.due("the one before waits as well", sheet.deliver(0, 2, 1), 2);
        Check.due("one of two", sheet.deliver(0, 1, 1), 1);
        Check.due("is not all", sheet.waiting(0), 2);
        Check.due("none is taken", sheet.known(0, 2), 0);
        Check.due("the other", sheet.deliver(0, 1, 2), 1);
        Check.due("is all", sheet.waiting(0), 0);
        Check.due("both are taken", sheet.known(0, 2), 2);
        Check.due("at office 1 without office 0's", sheet.deliver(1, 2, 1), 2);
        Check.due("office 0's", sheet.deliver(1, 0, 1), 1);
        Check.due("is all there", sheet.known(1, 2), 1);
    }

    /** "an act that came before its past WAITS": also the first one that its maker made */
    private static void firstActsMayWait() {
        for (int maker = 0; maker < 3; maker++) {
            int before = (maker + 1) % 3;
            int to = (maker + 2) % 3;
            OfficeSheet sheet = new OfficeSheet();
            sheet.put(before, ROW, NONE);
            sheet.deliver(maker, before, 1);
            sheet.put(maker, ROW, 0);
            Check.due("the first of office " + maker, sheet.deliver(to, maker, 1), 2);
            Check.due("waits", sheet.waiting(to), 1);
            Check.due("not where its past is", sheet.deliver(before, maker, 1), 1);
            Check.due("its past", sheet.deliver(to, before, 1), 1);
            Check.due("none waits", sheet.waiting(to), 0);
            Check.due("it is taken", sheet.known(to, maker), 1);
        }
    }

    /** "an act that came before its past WAITS": nothing of it is seen */
    private static void waitingIsNotTaken() {
        OfficeSheet sheet = Check.sheet(1, 1);
        Check.meet(sheet);
        sheet.put(0, ROW, 0);
        Check.enter(sheet, 0, 0, 0, "7");
        Check.due("waits", sheet.deliver(1, 0, 4), 2);
        Check.due("how many wait", sheet.waiting(1), 1);
        Check.due("it is not known", sheet.known(1, 0), 2);
        Check.due("nor valued", sheet.value(1, 0, 0), 0);
        Check.due("nor written", sheet.print(1, 0, 0), 0);
        Check.due("again", sheet.deliver(1, 0, 4), 0);
        Check.due("waits once", sheet.waiting(1), 1);
        Check.due("an act of office 1 has it not in its past", sheet.put(1, ROW, 0), 101);
        Check.due("so it is taken without it", sheet.deliver(2, 1, 1), 1);
    }

    /** "and is taken as soon as that is there" */
    private static void takenAsSoonAsThePastIsThere() {
        OfficeSheet sheet = Check.sheet(1, 1);
        Check.meet(sheet);
        sheet.put(0, ROW, 0);
        Check.enter(sheet, 0, 0, 0, "7");
        sheet.deliver(1, 0, 4);
        Check.due("its past comes", sheet.deliver(1, 0, 3), 1);
        Check.due("none waits", sheet.waiting(1), 0);
        Check.due("it is known", sheet.known(1, 0), 4);
        Check.due("and valued", sheet.value(1, 0, 0), 70000);
        Check.due("and came before", sheet.deliver(1, 0, 4), 0);
    }

    /** "(of several the one of the least office first, again and again)": each makes the next one's past whole */
    private static void againAndAgain() {
        OfficeSheet sheet = new OfficeSheet();
        sheet.put(1, ROW, NONE);
        for (int n = 1; n <= 5; n++) {
            int maker = n % 2 == 1 ? 0 : 1;
            Check.deliverAll(sheet, maker, 1 - maker);
            sheet.put(maker, ROW, 0);
        }
        Check.due("acts of office 0", sheet.known(0, 0), 3);
        Check.due("acts of office 1", sheet.known(1, 1), 3);
        for (int n = 3; n >= 1; n--) {
            Check.due("waits", sheet.deliver(2, 0, n), 2);
            Check.due("waits unless it is the first", sheet.deliver(2, 1, n), n > 1 ? 2 : 1);
        }
        Check.due("all are taken", sheet.known(2, 0) + sheet.known(2, 1), 6);
        Check.due("none waits", sheet.waiting(2), 0);
        Check.due("as at their makers", Check.shown(sheet, 2, ROW), Check.shown(sheet, 0, ROW));
    }

    /** "Its STAMP is a number, 1 more than the greatest of all acts that its maker had taken" */
    private static void oneMoreThanTheGreatestTaken() {
        OfficeSheet sheet = Check.sheet(0, 5);
        Check.deliverAll(sheet, 1, 0);
        sheet.put(1, ROW, NONE);
        for (int n = 0; n < 6; n++) {
            sheet.put(2, ROW, NONE);
        }
        Check.deliverAll(sheet, 2, 0);
        Check.deliverAll(sheet, 2, 1);
        Check.due("a 6 stands between a 6 and a 5", Check.shown(sheet, 2, ROW), "206 101 205 204 203 202 201");
    }

    /** "the greatest of all acts that its maker had taken" */
    private static void theGreatestTakenIsNotOneThatWaits() {
        OfficeSheet sheet = Check.sheet(0, 5);
        Check.due("a 5 waits", sheet.deliver(1, 0, 5), 2);
        sheet.put(1, ROW, NONE);
        sheet.put(2, ROW, NONE);
        sheet.put(2, ROW, NONE);
        Check.meet(sheet);
        Check.due("a 1 stands behind a 1 and a 2", Check.shown(sheet, 1, ROW), "202 201 101");
    }

    /** "1 more than the greatest of all acts": not than how many there are */
    private static void theGreatestIsNotHowMany() {
        OfficeSheet sheet = new OfficeSheet();
        for (int n = 0; n < 3; n++) {
            sheet.put(0, COLUMN, NONE);
            sheet.put(2, ROW, NONE);
        }
        Check.deliverAll(sheet, 1, 0);
        Check.deliverAll(sheet, 1, 2);
        sheet.put(1, ROW, NONE);
        sheet.put(0, ROW, NONE);
        sheet.put(0, ROW, NONE);
        Check.meet(sheet);
        Check.due("a 4 stands between a 5 and a 4", Check.shown(sheet, 0, ROW), "5 101 4 203 202 201");
    }

    /** "Its STAMP is a number": also that of MOVE, GONE, THERE, BACK and WRITE */
    private static void allActsHaveStamps() {
        OfficeSheet sheet = Check.sheet(1, 1);
        Check.meet(sheet);
        sheet.move(0, ROW, 0, NONE);
        sheet.undo(0);
        sheet.remove(0, ROW, 0);
        sheet.undo(0);
        Check.enter(sheet, 0, 0, 0, "7");
        sheet.undo(0);
        sheet.put(0, ROW, NONE);
        for (int n = 0; n < 7; n++) {
            sheet.put(1, ROW, NONE);
        }
        Check.meet(sheet);
        Check.due("a 9 stands between a 9 and an 8", Check.shown(sheet, 2, ROW), "107 9 106 105 104 103 102 101 1");
    }

    /** "stamps are compared by the number, then by the maker" */
    private static void byNumberThenByMaker() {
        OfficeSheet sheet = Check.sheet(1, 1);
        Check.meet(sheet);
        Check.enter(sheet, 2, 0, 0, "2");
        Check.enter(sheet, 1, 0, 0, "1");
        Check.enter(sheet, 0, 0, 0, "3");
        Check.enter(sheet, 0, 0, 0, "4");
        sheet.deliver(1, 0, 3);
        Check.due("equal numbers: the greater maker", sheet.value(1, 0, 0), 10000);
        sheet.deliver(1, 2, 1);
        Check.due("the greatest maker", sheet.value(1, 0, 0), 20000);
        sheet.deliver(1, 0, 4);
        Check.due("a greater number of a lesser maker", sheet.value(1, 0, 0), 40000);
    }
}
