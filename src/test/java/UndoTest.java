/** Promise 8 (undo). */
public final class UndoTest {
    private static final int NONE = OfficeSheet.NONE;
    private static final int ROW = 0;
    private static final int COLUMN = 1;

    public static void main(String[] args) {
        ofPut();
        ofMove();
        ofRemove();
        ofWrite();
        ofWhatWasHeldWhenTheActWasMade();
        onlyTheLatestOwnAct();
        whatDoesNotCountIsLeft();
        putCountsByItsBeingThere();
        countsAsTheOfficeHasIt();
        goesToOthers();
        eachKindOfActByItsOwn();
        backToThePlaceOfWhenTheActWasMade();
        backWhenOthersMovedSince();
        linesThatAreGoneCountToo();
        whatSpokeLatestOnceMoreDoesNotCount();
        falseAgainAndAgain();
        refuses();
        Check.end();
    }

    private static void undo(OfficeSheet sheet, int office, boolean want) {
        int acts = sheet.known(office, office);
        Check.due("undo", sheet.undo(office) ? 1 : 0, want ? 1 : 0);
        Check.due("acts after undo", sheet.known(office, office), want ? acts + 1 : acts);
    }

    private static void ofPut() {
        OfficeSheet sheet = Check.sheet(2, 0);
        undo(sheet, 0, true);
        Check.due("put taken back", Check.shown(sheet, 0, ROW), "1");
        undo(sheet, 0, true);
        Check.due("and there again", Check.shown(sheet, 0, ROW), "1 2");
        undo(sheet, 0, true);
        Check.due("and gone again", Check.shown(sheet, 0, ROW), "1");
    }

    private static void ofMove() {
        OfficeSheet sheet = Check.sheet(3, 0);
        sheet.move(0, ROW, 2, NONE);
        Check.due("moved", Check.shown(sheet, 0, ROW), "3 1 2");
        sheet.move(0, ROW, 0, 1);
        Check.due("moved again", Check.shown(sheet, 0, ROW), "1 3 2");
        undo(sheet, 0, true);
        Check.due("to the place before", Check.shown(sheet, 0, ROW), "3 1 2");
        undo(sheet, 0, true);
        Check.due("and back again", Check.shown(sheet, 0, ROW), "1 3 2");
        undo(sheet, 0, true);
        Check.due("and once more", Check.shown(sheet, 0, ROW), "3 1 2");
    }

    private static void ofRemove() {
        OfficeSheet sheet = Check.sheet(1, 3);
        sheet.remove(0, COLUMN, 1);
        undo(sheet, 0, true);
        Check.due("there again", Check.shown(sheet, 0, COLUMN), "2 3 4");
        undo(sheet, 0, true);
        Check.due("gone again", Check.shown(sheet, 0, COLUMN), "2 4");
        undo(sheet, 0, true);
        Check.due("and there", Check.shown(sheet, 0, COLUMN), "2 3 4");
    }

    private static void ofWrite() {
        OfficeSheet sheet = Check.sheet(1, 2);
        Check.enter(sheet, 0, 0, 0, "=B1*2");
        undo(sheet, 0, true);
        Check.due("nothing before", Check.printed(sheet, 0, 0, 0), "");
        undo(sheet, 0, true);
        Check.due("the formula again", Check.printed(sheet, 0, 0, 0), "=B1*2");
        Check.enter(sheet, 0, 0, 0, "5");
        undo(sheet, 0, true);
        Check.due("the formula before", Check.printed(sheet, 0, 0, 0), "=B1*2");
        undo(sheet, 0, true);
        Check.due("the number again", Check.printed(sheet, 0, 0, 0), "5");
        Check.enter(sheet, 0, 0, 0, "");
        undo(sheet, 0, true);
        Check.due("the number before nothing", Check.printed(sheet, 0, 0, 0), "5");
    }

    private static void ofWhatWasHeldWhenTheActWasMade() {
        OfficeSheet sheet = Check.sheet(1, 1);
        Check.enter(sheet, 0, 0, 0, "1");
        Check.deliverAll(sheet, 1, 0);
        Check.deliverAll(sheet, 2, 0);
        Check.enter(sheet, 1, 0, 0, "2");
        Check.enter(sheet, 2, 0, 0, "3");
        sheet.deliver(2, 1, 1);
        Check.due("office 2's counts", sheet.value(2, 0, 0), 30000);
        undo(sheet, 2, true);
        Check.due("back to what office 2 had then", sheet.value(2, 0, 0), 10000);
        Check.due("and nothing beside it", sheet.also(2, 0, 0), 0);
    }

    private static void onlyTheLatestOwnAct() {
        OfficeSheet sheet = Check.sheet(1, 1);
        Check.meet(sheet);
        sheet.put(0, ROW, 0);
        Check.enter(sheet, 1, 0, 0, "4");
        Check.meet(sheet);
        undo(sheet, 0, true);
        Check.due("office 0's row is gone", Check.shown(sheet, 0, ROW), "1");
        Check.due("office 1's write stays", sheet.value(0, 0, 0), 40000);
        undo(sheet, 1, true);
        Check.due("office 1's write is taken back", sheet.value(1, 0, 0), 0);
        Check.due("office 0's row stays there", Check.shown(sheet, 1, ROW), "1 3");
    }

    private static void whatDoesNotCountIsLeft() {
        OfficeSheet sheet = Check.sheet(3, 1);
        Check.meet(sheet);
        Check.enter(sheet, 0, 0, 0, "1");
        Check.enter(sheet, 1, 0, 0, "2");
        sheet.deliver(0, 1, 1);
        undo(sheet, 0, false);
        Check.due("office 1's write counts", sheet.value(0, 0, 0), 20000);
        sheet.move(0, ROW, 0, 2);
        sheet.move(1, ROW, 0, 1);
        sheet.move(1, ROW, 1, NONE);
        Check.meet(sheet);
        undo(sheet, 0, false);
        Check.due("office 1's move counts", Check.shown(sheet, 0, ROW), "1 2 3");
        sheet.remove(0, ROW, 1);
        sheet.remove(1, ROW, 1);
        Check.meet(sheet);
        undo(sheet, 0, false);
        Check.due("office 1's remove counts", Check.shown(sheet, 0, ROW), "1 3");
        undo(sheet, 1, true);
        Check.due("so office 1 takes it back", Check.shown(sheet, 1, ROW), "1 2 3");
        undo(sheet, 0, false);
    }

    private static void putCountsByItsBeingThere() {
        OfficeSheet sheet = Check.sheet(2, 0);
        Check.meet(sheet);
        sheet.put(0, ROW, 1);
        Check.meet(sheet);
        sheet.move(1, ROW, 2, NONE);
        Check.meet(sheet);
        Check.due("moved by another", Check.shown(sheet, 0, ROW), "3 1 2");
        undo(sheet, 0, true);
        Check.due("a moved line is still taken back", Check.shown(sheet, 0, ROW), "1 2");
        sheet.put(0, ROW, 1);
        Check.meet(sheet);
        sheet.remove(1, ROW, 2);
        Check.meet(sheet);
        undo(sheet, 0, false);
        Check.due("a removed one is not", Check.shown(sheet, 0, ROW), "1 2");
    }

    private static void countsAsTheOfficeHasIt() {
        OfficeSheet sheet = Check.sheet(1, 1);
        Check.meet(sheet);
        Check.enter(sheet, 0, 0, 0, "1");
        Check.enter(sheet, 1, 0, 0, "2");
        undo(sheet, 0, true);
        Check.due("what did not come does not count", sheet.value(0, 0, 0), 0);
        sheet.remove(1, ROW, 0);
        sheet.deliver(0, 1, 1);
        sheet.deliver(0, 1, 2);
        Check.due("a gone row", sheet.lines(0, ROW), 0);
        undo(sheet, 0, true);
        sheet.put(1, ROW, NONE);
        undo(sheet, 1, true);
        Check.meet(sheet);
        Check.due("no row", sheet.lines(1, ROW), 0);
    }

    private static void goesToOthers() {
        OfficeSheet sheet = Check.sheet(3, 1);
        sheet.move(0, ROW, 2, NONE);
        sheet.undo(0);
        Check.enter(sheet, 0, 0, 0, "9");
        sheet.undo(0);
        sheet.remove(0, ROW, 0);
        sheet.undo(0);
        Check.meet(sheet);
        Check.due("acts taken", sheet.known(2, 0), 10);
        Check.due("back", Check.shown(sheet, 2, ROW), "1 2 3");
        Check.due("nothing", sheet.value(2, 0, 0), 0);
    }

    /** "GONE for PUT; BACK .. for MOVE and BACK; THERE for GONE, GONE for THERE; WRITE .. for WRITE" */
    private static void eachKindOfActByItsOwn() {
        OfficeSheet sheet = Check.sheet(2, 1);
        sheet.move(0, ROW, 0, 1);
        Check.due("MOVE", Check.shown(sheet, 0, ROW), "2 1");
        undo(sheet, 0, true);
        Check.due("BACK for MOVE", Check.shown(sheet, 0, ROW), "1 2");
        undo(sheet, 0, true);
        Check.due("BACK for BACK", Check.shown(sheet, 0, ROW), "2 1");
        sheet.remove(0, ROW, 0);
        Check.due("GONE", Check.shown(sheet, 0, ROW), "1");
        undo(sheet, 0, true);
        Check.due("THERE for GONE", Check.shown(sheet, 0, ROW), "2 1");
        undo(sheet, 0, true);
        Check.due("GONE for THERE", Check.shown(sheet, 0, ROW), "1");
        Check.enter(sheet, 0, 0, 0, "5");
        Check.enter(sheet, 0, 0, 0, "6");
        undo(sheet, 0, true);
        Check.holds(sheet, "A1", "5");
        undo(sheet, 0, true);
        Check.holds(sheet, "A1", "6");
        sheet.put(0, COLUMN, 0);
        undo(sheet, 0, true);
        Check.due("GONE for PUT", Check.shown(sheet, 0, COLUMN), "3");
    }

    /** "(before: when the act was made)": a move that came since, with a lesser stamp, is not it */
    private static void backToThePlaceOfWhenTheActWasMade() {
        OfficeSheet sheet = Check.sheet(3, 0);
        Check.meet(sheet);
        sheet.move(2, ROW, 0, 2);
        sheet.move(1, ROW, 0, 1);
        Check.deliverAll(sheet, 2, 1);
        Check.due("office 2's counts", Check.shown(sheet, 2, ROW), "2 3 1");
        undo(sheet, 2, true);
        Check.due("to the place of then", Check.shown(sheet, 2, ROW), "1 2 3");
        undo(sheet, 2, true);
        Check.due("and back", Check.shown(sheet, 2, ROW), "2 3 1");
    }

    /** "BACK to the place before": which is the place itself, wherever it stands by now */
    private static void backWhenOthersMovedSince() {
        OfficeSheet sheet = Check.sheet(3, 0);
        Check.meet(sheet);
        sheet.move(0, ROW, 2, NONE);
        Check.meet(sheet);
        sheet.move(1, ROW, 2, NONE);
        sheet.put(1, ROW, 2);
        Check.meet(sheet);
        Check.due("rows", Check.shown(sheet, 0, ROW), "2 3 1 102");
        undo(sheet, 0, true);
        Check.due("its place is after the old place of 2, which is after that of 1", Check.shown(sheet, 0, ROW), "2 1 102 3");
    }

    /** "if what it says still counts there (it spoke latest of the place ..)": whether the line is there or not */
    private static void linesThatAreGoneCountToo() {
        OfficeSheet sheet = Check.sheet(3, 1);
        Check.meet(sheet);
        sheet.move(0, ROW, 0, 2);
        Check.meet(sheet);
        sheet.remove(1, ROW, 2);
        Check.enter(sheet, 2, 2, 0, "5");
        Check.meet(sheet);
        Check.due("gone", Check.shown(sheet, 0, ROW), "2 3");
        undo(sheet, 0, true);
        undo(sheet, 2, true);
        Check.meet(sheet);
        undo(sheet, 1, true);
        Check.due("there, at the place before", Check.shown(sheet, 1, ROW), "1 2 3");
        Check.due("with what it held before", sheet.print(1, 0, 0), 0);
    }

    /** "(it spoke latest ..)": an act after which another spoke does not count, even if that one took itself back */
    private static void whatSpokeLatestOnceMoreDoesNotCount() {
        OfficeSheet sheet = Check.sheet(2, 1);
        Check.meet(sheet);
        sheet.put(0, ROW, 1);
        Check.meet(sheet);
        sheet.remove(1, ROW, 2);
        undo(sheet, 1, true);
        Check.meet(sheet);
        Check.due("there again", Check.shown(sheet, 0, ROW), "1 2 4");
        undo(sheet, 0, false);
        Check.enter(sheet, 0, 0, 0, "5");
        Check.meet(sheet);
        Check.enter(sheet, 1, 0, 0, "6");
        undo(sheet, 1, true);
        Check.meet(sheet);
        Check.holds(sheet, "A1", "5");
        undo(sheet, 0, false);
        Check.holds(sheet, "A1", "5");
    }

    /** "Whether there was such an act." */
    private static void falseAgainAndAgain() {
        OfficeSheet sheet = Check.sheet(2, 0);
        Check.meet(sheet);
        sheet.remove(1, ROW, 1);
        Check.meet(sheet);
        for (int n = 0; n < 45; n++) {
            undo(sheet, 0, false);
        }
        Check.due("nothing is changed", Check.shown(sheet, 0, ROW), "1");
        Check.due("the next act has the next number", sheet.put(0, ROW, NONE), 3);
        undo(sheet, 0, true);
    }

    private static void refuses() {
        OfficeSheet sheet = new OfficeSheet();
        Check.argument("undo at office -1", () -> sheet.undo(-1));
        Check.argument("undo at office 3", () -> sheet.undo(3));
        Check.throwing("undo of nothing", UnsupportedOperationException.class, () -> sheet.undo(0));
        sheet.put(0, ROW, NONE);
        sheet.put(0, COLUMN, NONE);
        Check.meet(sheet);
        Check.throwing("acts of others only", UnsupportedOperationException.class, () -> sheet.undo(1));
        for (int n = 2; n < 40; n++) {
            Check.enter(sheet, 0, 0, 0, "1");
        }
        Check.due("forty acts", sheet.known(0, 0), 40);
        Check.state("a 41st act", () -> sheet.undo(0));
        Check.meet(sheet);
        Check.enter(sheet, 1, 0, 0, "2");
        Check.meet(sheet);
        Check.state("also if it does not count", () -> sheet.undo(0));
    }
}
