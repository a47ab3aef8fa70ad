import java.util.ArrayList;
import java.util.Arrays;

/**
 * A calculating sheet that three offices change while they are apart. Each office has taken some of
 * the acts that were made, and shows the lines and cells that follow from these alone.
 */
public final class OfficeSheet {
    public static final int NONE = -1;

    private static final int OFFICES = 3;
    private static final int ACTS = 40;
    private static final int ALL_ACTS = OFFICES * ACTS;
    private static final int KINDS = 2;
    private static final int ROW = 0;
    private static final int COLUMN = 1;
    private static final int FULL_OF_ROWS = 9;
    private static final int FULL_OF_COLUMNS = 5;

    private static final int TEXT_LENGTH = 20;
    private static final char FIRST_CHARACTER = 32;
    private static final char LAST_CHARACTER = 126;
    private static final int LETTERS = 26;
    // A part takes at least one character of a text, so no part lies deeper; the rest is for the whole.
    private static final int DEEPEST = TEXT_LENGTH + 2;

    private static final int UNIT = 10000;
    private static final int DIGITS_BEFORE = 6;
    private static final int DIGITS_BEHIND = 4;
    private static final long GREATEST = 1000000000L;

    private static final int QUOTIENT_BY_ZERO = 1;
    private static final int LINE_NOT_SHOWN = 2;
    private static final int READS_ITSELF = 3;
    private static final int NO_NUMBER = 4;

    private static final int CAME_BEFORE = 0;
    private static final int TAKEN = 1;
    private static final int WAITS = 2;

    private final Office[] offices = new Office[OFFICES];
    private final Reader reader = new Reader();
    private final Calculator calculator = new Calculator();
    private final Writer writer = new Writer();

    public OfficeSheet() {
        for (int i = 0; i < OFFICES; i++) {
            offices[i] = new Office(i);
        }
    }

    public int type(char c) throws IllegalArgumentException, IllegalStateException {
        if (c < FIRST_CHARACTER || c > LAST_CHARACTER) {
            throw new IllegalArgumentException("no character of a text");
        }
        if (reader.draft.length() >= TEXT_LENGTH) {
            throw new IllegalStateException("the draft is full");
        }
        reader.draft.append(c);
        return reader.draft.length();
    }

    public void cut(int n) throws IllegalArgumentException {
        if (n < 0 || n > reader.draft.length()) {
            throw new IllegalArgumentException("the draft has not so many characters");
        }
        reader.draft.setLength(n);
    }

    public int put(int office, int kind, int after)
            throws IllegalArgumentException, IndexOutOfBoundsException, IllegalStateException {
        Office here = officeOf(office);
        Axis axis = axisOf(here, kind);
        Place behind = placeShown(axis, after);
        refuseWhenAllActsAreMade(here);
        if (axis.count() >= (kind == ROW ? FULL_OF_ROWS : FULL_OF_COLUMNS)) {
            throw new IllegalStateException("the office shows too many lines");
        }
        return here.makeLine(kind, behind).told;
    }

    public void move(int office, int kind, int i, int after)
            throws IllegalArgumentException, IndexOutOfBoundsException, IllegalStateException {
        Office here = officeOf(office);
        Axis axis = axisOf(here, kind);
        Line moved = lineShown(axis, i);
        Place behind = placeShown(axis, after);
        refuseWhenAllActsAreMade(here);
        here.makeMove(moved, behind);
    }

    public void remove(int office, int kind, int i)
            throws IllegalArgumentException, IndexOutOfBoundsException, IllegalStateException {
        Office here = officeOf(office);
        Line gone = lineShown(axisOf(here, kind), i);
        refuseWhenAllActsAreMade(here);
        here.makeBeing(ActKind.GONE, gone);
    }

    public int enter(int office, int row, int column)
            throws IllegalArgumentException, IndexOutOfBoundsException, IllegalStateException {
        Office here = officeOf(office);
        Line inRow = lineShown(here.axes[ROW], row);
        Line inColumn = lineShown(here.axes[COLUMN], column);
        refuseWhenAllActsAreMade(here);
        Part content = reader.read(here.axes[ROW], here.axes[COLUMN]);
        if (reader.fault == NONE) {
            here.makeWrite(inRow, inColumn, content);
        }
        return reader.fault;
    }

    public boolean undo(int office)
            throws IllegalArgumentException, UnsupportedOperationException, IllegalStateException {
        Office here = officeOf(office);
        if (here.made() == 0) {
            throw new UnsupportedOperationException("the office made no act");
        }
        refuseWhenAllActsAreMade(here);
        Act latest = here.acts[indexOf(office, here.made())];
        boolean counts = here.counts(latest);
        if (counts) {
            here.takeBack(latest);
        }
        return counts;
    }

    public int deliver(int to, int from, int number) throws IllegalArgumentException {
        Office here = officeOf(to);
        Office maker = officeOf(from);
        if (to == from || number < 1 || number > maker.made()) {
            throw new IllegalArgumentException("no such act of another office");
        }
        return here.receive(maker.acts[indexOf(from, number)]);
    }

    public int known(int office, int of) throws IllegalArgumentException {
        Office here = officeOf(office);
        return here.known[officeOf(of).name];
    }

    public int waiting(int office) throws IllegalArgumentException {
        return officeOf(office).countWaiting();
    }

    public int lines(int office, int kind) throws IllegalArgumentException {
        return axisOf(officeOf(office), kind).count();
    }

    public int line(int office, int kind, int i) throws IllegalArgumentException, IndexOutOfBoundsException {
        return lineShown(axisOf(officeOf(office), kind), i).told;
    }

    public int value(int office, int row, int column) throws IllegalArgumentException, IndexOutOfBoundsException {
        long result = resultShown(office, row, column);
        return Calculator.isError(result) ? 0 : (int) result;
    }

    public int error(int office, int row, int column) throws IllegalArgumentException, IndexOutOfBoundsException {
        long result = resultShown(office, row, column);
        return Calculator.isError(result) ? Calculator.errorOf(result) : 0;
    }

    public int also(int office, int row, int column) throws IllegalArgumentException, IndexOutOfBoundsException {
        Office here = officeOf(office);
        Line inRow = lineShown(here.axes[ROW], row);
        Line inColumn = lineShown(here.axes[COLUMN], column);
        return here.countRivals(inRow, inColumn);
    }

    public int print(int office, int row, int column) throws IllegalArgumentException, IndexOutOfBoundsException {
        Office here = officeOf(office);
        Line inRow = lineShown(here.axes[ROW], row);
        Line inColumn = lineShown(here.axes[COLUMN], column);
        writer.write(here.contentOf(inRow, inColumn), here.axes[ROW], here.axes[COLUMN]);
        return writer.text.length();
    }

    public int out(int k) throws IndexOutOfBoundsException {
        if (k < 0 || k >= writer.text.length()) {
            throw new IndexOutOfBoundsException("OUT has no such character");
        }
        return writer.text.charAt(k);
    }

    private Office officeOf(int office) {
        if (office < 0 || office >= OFFICES) {
            throw new IllegalArgumentException("no such office");
        }
        return offices[office];
    }

    private static Axis axisOf(Office office, int kind) {
        if (kind < 0 || kind >= KINDS) {
            throw new IllegalArgumentException("no such kind");
        }
        return office.axes[kind];
    }

    private static Line lineShown(Axis axis, int i) {
        if (i < 0 || i >= axis.count()) {
            throw new IndexOutOfBoundsException("no such line is shown");
        }
        return axis.shown.get(i);
    }

    /** The place of the line shown as i, or null, the beginning, for NONE. */
    private static Place placeShown(Axis axis, int i) {
        return i == NONE ? null : axis.placeOf(lineShown(axis, i));
    }

    private static void refuseWhenAllActsAreMade(Office office) {
        if (office.made() >= ACTS) {
            throw new IllegalStateException("the office made all its acts");
        }
    }

    private long resultShown(int office, int row, int column) {
        Office here = officeOf(office);
        Line inRow = lineShown(here.axes[ROW], row);
        Line inColumn = lineShown(here.axes[COLUMN], column);
        calculator.calculate(here);
        return calculator.resultOf(inRow, inColumn);
    }

    /** Where an act, or the line that it made, stands in an array of all of them. */
    private static int indexOf(int maker, int number) {
        return maker * ACTS + number - 1;
    }

    /** A row or a column: the same at all offices. */
    private static final class Line {
        private final int kind;
        private final int told;
        // Where an array of all lines has it.
        private final int index;

        Line(int kind, int maker, int number) {
            this.kind = kind;
            this.told = 100 * maker + number;
            this.index = indexOf(maker, number);
        }
    }

    /** A place that an act made for a line, after another one, or after the beginning (null). */
    private static final class Place {
        private final Line line;
        private final Place after;
        private final int stamp;

        Place(Line line, Place after, int stamp) {
            this.line = line;
            this.after = after;
            this.stamp = stamp;
        }
    }

    private enum ActKind {
        PUT, MOVE, BACK, THERE, GONE, WRITE;

        boolean makesPlace() {
            return this == PUT || this == MOVE;
        }

        boolean speaksOfPlace() {
            return makesPlace() || this == BACK;
        }

        boolean speaksOfBeing() {
            return this == PUT || this == THERE || this == GONE;
        }
    }

    /** An act: of a line, with its place if it speaks of that, or of a cell, with its content. */
    private static final class Act {
        private final ActKind kind;
        private final int maker;
        private final int number;
        // The number of the stamp and the maker in one, so that stamps are compared as numbers are.
        private final int stamp;
        // How many acts of each office the maker had taken before: those of one office come in a row.
        private final int[] past;
        private Line line;
        private Place place;
        private Place placeBefore;
        private Line row;
        private Line column;
        private Part content;
        private Part contentBefore;

        Act(ActKind kind, Office maker) {
            this.kind = kind;
            this.maker = maker.name;
            this.number = maker.made() + 1;
            this.stamp = maker.nextStamp();
            this.past = maker.known.clone();
        }

        void speakOfLine(Line spoken, Place now, Place before) {
            line = spoken;
            place = now;
            placeBefore = before;
        }

        void speakOfCell(Line inRow, Line inColumn, Part now, Part before) {
            row = inRow;
            column = inColumn;
            content = now;
            contentBefore = before;
        }

        boolean isLaterThan(Act other) {
            return other == null || stamp > other.stamp;
        }

        boolean isInPastOf(Act other) {
            return other.past[maker] >= number;
        }

        boolean writes(Line inRow, Line inColumn) {
            return kind == ActKind.WRITE && row == inRow && column == inColumn;
        }
    }

    /** The lines of one kind, as one office has them. */
    private static final class Axis {
        private final ArrayList<Place> order = new ArrayList<>();
        private final ArrayList<Line> shown = new ArrayList<>();
        private final Act[] latestOfPlace = new Act[ALL_ACTS];
        private final Act[] latestOfBeing = new Act[ALL_ACTS];
        private final int[] shownAs = new int[ALL_ACTS];

        Axis() {
            Arrays.fill(shownAs, NONE);
        }

        int count() {
            return shown.size();
        }

        /** As which number a line is shown, or NONE. */
        int positionOf(Line line) {
            return line == null ? NONE : shownAs[line.index];
        }

        /** Whether a line that is shown stands from one to the other, whichever comes first. */
        boolean standsWithin(Line line, Line from, Line to) {
            int i = positionOf(from);
            int j = positionOf(to);
            int position = positionOf(line);
            return position >= Math.min(i, j) && position <= Math.max(i, j);
        }

        Place placeOf(Line line) {
            Act act = latestOfPlace[line.index];
            return act == null ? null : act.place;
        }

        boolean counts(Act act) {
            int i = act.line.index;
            return act == (act.kind.speaksOfBeing() ? latestOfBeing[i] : latestOfPlace[i]);
        }

        void learn(Act act) {
            int i = act.line.index;
            if (act.kind.makesPlace()) {
                insert(act.place);
            }
            if (act.kind.speaksOfPlace() && act.isLaterThan(latestOfPlace[i])) {
                latestOfPlace[i] = act;
            }
            if (act.kind.speaksOfBeing() && act.isLaterThan(latestOfBeing[i])) {
                latestOfBeing[i] = act;
            }
            showAnew();
        }

        /**
         * A place has a greater stamp than the one after which it is. So those with greater stamps that
         * follow here are after the same one, or go with such a one, and the first with a lesser stamp
         * is where the new one belongs.
         */
        private void insert(Place place) {
            int at = orderOf(place.after) + 1;
            while (at < order.size() && order.get(at).stamp > place.stamp) {
                at++;
            }
            order.add(at, place);
        }

        private int orderOf(Place place) {
            for (int i = 0; i < order.size(); i++) {
                if (order.get(i) == place) {
                    return i;
                }
            }
            return NONE;
        }

        private void showAnew() {
            shown.clear();
            Arrays.fill(shownAs, NONE);
            for (int i = 0; i < order.size(); i++) {
                Place place = order.get(i);
                if (placeOf(place.line) == place && isThere(place.line)) {
                    shownAs[place.line.index] = shown.size();
                    shown.add(place.line);
                }
            }
        }

        private boolean isThere(Line line) {
            Act act = latestOfBeing[line.index];
            return act != null && act.kind != ActKind.GONE;
        }
    }

    /** An office: the acts that it made and that came to it, and what follows from those taken. */
    private static final class Office {
        private final int name;
        private final int[] known = new int[OFFICES];
        private final Act[] acts = new Act[ALL_ACTS];
        private final Axis[] axes = new Axis[KINDS];
        // Of each cell that was written, the write that counts.
        private final ArrayList<Act> writes = new ArrayList<>();
        private int clock = 0;

        Office(int name) {
            this.name = name;
            axes[ROW] = new Axis();
            axes[COLUMN] = new Axis();
        }

        int made() {
            return known[name];
        }

        int nextStamp() {
            return (clock + 1) * OFFICES + name;
        }

        Line makeLine(int kind, Place behind) {
            Line line = new Line(kind, name, made() + 1);
            Act act = new Act(ActKind.PUT, this);
            act.speakOfLine(line, new Place(line, behind, act.stamp), null);
            take(act);
            return line;
        }

        void makeMove(Line line, Place behind) {
            Act act = new Act(ActKind.MOVE, this);
            act.speakOfLine(line, new Place(line, behind, act.stamp), axes[line.kind].placeOf(line));
            take(act);
        }

        void makeBack(Line line, Place place) {
            Act act = new Act(ActKind.BACK, this);
            act.speakOfLine(line, place, axes[line.kind].placeOf(line));
            take(act);
        }

        void makeBeing(ActKind kind, Line line) {
            Act act = new Act(kind, this);
            act.speakOfLine(line, null, null);
            take(act);
        }

        void makeWrite(Line row, Line column, Part content) {
            Act act = new Act(ActKind.WRITE, this);
            act.speakOfCell(row, column, content, contentOf(row, column));
            take(act);
        }

        /** Whether the act is the latest that speaks of what it speaks of. */
        boolean counts(Act act) {
            if (act.kind == ActKind.WRITE) {
                return writeThatCounts(act.row, act.column) == act;
            }
            return axes[act.line.kind].counts(act);
        }

        void takeBack(Act act) {
            switch (act.kind) {
                case PUT:
                case THERE:
                    makeBeing(ActKind.GONE, act.line);
                    break;
                case GONE:
                    makeBeing(ActKind.THERE, act.line);
                    break;
                case WRITE:
                    makeWrite(act.row, act.column, act.contentBefore);
                    break;
                default:
                    makeBack(act.line, act.placeBefore);
                    break;
            }
        }

        int receive(Act act) {
            int i = indexOf(act.maker, act.number);
            if (acts[i] != null) {
                return CAME_BEFORE;
            }
            acts[i] = act;
            if (!isReady(act)) {
                return WAITS;
            }
            take(act);
            takeWaiting();
            return TAKEN;
        }

        private void takeWaiting() {
            for (int n = 0; n < ALL_ACTS; n++) {
                Act act = firstReady();
                if (act == null) {
                    return;
                }
                take(act);
            }
        }

        private Act firstReady() {
            for (int maker = 0; maker < OFFICES; maker++) {
                if (known[maker] < ACTS) {
                    Act next = acts[indexOf(maker, known[maker] + 1)];
                    if (next != null && isReady(next)) {
                        return next;
                    }
                }
            }
            return null;
        }

        private boolean isReady(Act act) {
            for (int i = 0; i < OFFICES; i++) {
                if (act.past[i] > known[i]) {
                    return false;
                }
            }
            return true;
        }

        int countWaiting() {
            int count = 0;
            for (int i = 0; i < ALL_ACTS; i++) {
                if (acts[i] != null && !isTaken(acts[i])) {
                    count++;
                }
            }
            return count;
        }

        private boolean isTaken(Act act) {
            return act.number <= known[act.maker];
        }

        private void take(Act act) {
            acts[indexOf(act.maker, act.number)] = act;
            known[act.maker] = act.number;
            clock = Math.max(clock, act.stamp / OFFICES);
            if (act.kind == ActKind.WRITE) {
                learnWrite(act);
            } else {
                axes[act.line.kind].learn(act);
            }
        }

        private void learnWrite(Act act) {
            for (int i = 0; i < writes.size(); i++) {
                Act other = writes.get(i);
                if (other.writes(act.row, act.column)) {
                    if (act.isLaterThan(other)) {
                        writes.set(i, act);
                    }
                    return;
                }
            }
            writes.add(act);
        }

        private Act writeThatCounts(Line row, Line column) {
            for (int i = 0; i < writes.size(); i++) {
                if (writes.get(i).writes(row, column)) {
                    return writes.get(i);
                }
            }
            return null;
        }

        /** What a cell holds; null is nothing. */
        Part contentOf(Line row, Line column) {
            Act act = writeThatCounts(row, column);
            return act == null ? null : act.content;
        }

        /** How many taken writes of a cell, besides the one that counts, no other taken one knew. */
        int countRivals(Line row, Line column) {
            int count = 0;
            Act counting = writeThatCounts(row, column);
            for (int i = 0; i < ALL_ACTS; i++) {
                Act act = acts[i];
                if (act != null && act != counting && isTaken(act) && act.writes(row, column) && !isOvertaken(act)) {
                    count++;
                }
            }
            return count;
        }

        private boolean isOvertaken(Act write) {
            for (int i = 0; i < ALL_ACTS; i++) {
                Act act = acts[i];
                if (act != null && isTaken(act) && act.writes(write.row, write.column) && write.isInPastOf(act)) {
                    return true;
                }
            }
            return false;
        }
    }

    private enum PartKind {
        FORMULA("="), NUMBER(""), REFERENCE(""), NEGATIVE("-"),
        PLUS("+"), MINUS("-"), TIMES("*"), OVER("/"),
        SUM("s"), COUNT("n"), MOST("m");

        private final String sign;

        PartKind(String sign) {
            this.sign = sign;
        }

        boolean isSum() {
            return this == PLUS || this == MINUS;
        }

        boolean isProduct() {
            return this == TIMES || this == OVER;
        }
    }

    /** What a cell holds, or a part of it: a number, or a FORMULA, which is a whole one, with its parts. */
    private static final class Part {
        private final PartKind kind;
        private final Part left;
        private final Part right;
        private long number;
        private Line row;
        private Line column;
        private Line rowTo;
        private Line columnTo;

        Part(PartKind kind, Part left, Part right) {
            this.kind = kind;
            this.left = left;
            this.right = right;
        }

        static Part ofNumber(long number) {
            Part part = new Part(PartKind.NUMBER, null, null);
            part.number = number;
            return part;
        }

        static Part ofReference(Line row, Line column) {
            Part part = new Part(PartKind.REFERENCE, null, null);
            part.row = row;
            part.column = column;
            return part;
        }

        static Part ofBlock(PartKind kind, Part from, Part to) {
            Part part = new Part(kind, null, null);
            part.row = from.row;
            part.column = from.column;
            part.rowTo = to.row;
            part.columnTo = to.column;
            return part;
        }
    }

    /** Has the draft, and reads it token by token; behind the first fault nothing that it answers counts. */
    private static final class Reader {
        private final StringBuilder draft = new StringBuilder();
        // Where each token starts; each goes to the start of the next, and the last to the draft's end.
        private final int[] starts = new int[TEXT_LENGTH + 2];
        private int tokens = 0;
        private int token = 0;
        private int fault = NONE;
        private Axis rows;
        private Axis columns;

        /** The content that the draft tells (null for nothing), if fault is NONE then. */
        Part read(Axis shownRows, Axis shownColumns) {
            rows = shownRows;
            columns = shownColumns;
            split();
            token = 0;
            fault = NONE;
            if (tokens == 0) {
                return null;
            }
            Part content;
            if (isAt('=')) {
                goOn();
                content = new Part(PartKind.FORMULA, null, readExpression(0));
            } else {
                content = readSignedNumber();
            }
            if (token < tokens) {
                fail();
            }
            return content;
        }

        private void split() {
            tokens = 0;
            int at = 0;
            for (int n = 0; n < TEXT_LENGTH && at < draft.length(); n++) {
                starts[tokens] = at;
                tokens++;
                at = endOfToken(at);
            }
            starts[tokens] = draft.length();
        }

        private int endOfToken(int from) {
            int end = from + 1;
            if (isOfNumber(draft.charAt(from))) {
                while (end < draft.length() && isOfNumber(draft.charAt(end))) {
                    end++;
                }
            } else if (isCapital(draft.charAt(from))) {
                while (end < draft.length() && end < from + 3 && isDigit(draft.charAt(end))) {
                    end++;
                }
            }
            return end;
        }

        private Part readSignedNumber() {
            boolean negative = isAt('-');
            if (negative) {
                goOn();
            }
            Part part = readNumber();
            return negative ? Part.ofNumber(-part.number) : part;
        }

        private Part readExpression(int depth) {
            Part part = readTerm(depth);
            for (int n = 0; n < TEXT_LENGTH && fault == NONE && (isAt('+') || isAt('-')); n++) {
                PartKind kind = isAt('+') ? PartKind.PLUS : PartKind.MINUS;
                goOn();
                part = new Part(kind, part, readTerm(depth));
            }
            return part;
        }

        private Part readTerm(int depth) {
            Part part = readFactor(depth);
            for (int n = 0; n < TEXT_LENGTH && fault == NONE && (isAt('*') || isAt('/')); n++) {
                PartKind kind = isAt('*') ? PartKind.TIMES : PartKind.OVER;
                goOn();
                part = new Part(kind, part, readFactor(depth));
            }
            return part;
        }

        private Part readFactor(int depth) {
            if (depth > TEXT_LENGTH) {
                fail();
                return Part.ofNumber(0);
            }
            if (isAt('-')) {
                goOn();
                return new Part(PartKind.NEGATIVE, null, readFactor(depth + 1));
            }
            if (isAt('(')) {
                goOn();
                Part part = readExpression(depth + 1);
                pass(')');
                return part;
            }
            if (isAt('s')) {
                return readBlock(PartKind.SUM);
            }
            if (isAt('n')) {
                return readBlock(PartKind.COUNT);
            }
            if (isAt('m')) {
                return readBlock(PartKind.MOST);
            }
            return isCapital(charAtHand()) ? readReference() : readNumber();
        }

        private Part readBlock(PartKind kind) {
            goOn();
            pass('(');
            Part from = readReference();
            pass(':');
            Part to = readReference();
            pass(')');
            return Part.ofBlock(kind, from, to);
        }

        private Part readReference() {
            int column = charAtHand() - 'A';
            int row = isCapital(charAtHand()) ? rowAtHand() : NONE;
            if (row < 0 || row >= rows.count() || column < 0 || column >= columns.count()) {
                fail();
                return Part.ofReference(null, null);
            }
            goOn();
            return Part.ofReference(rows.shown.get(row), columns.shown.get(column));
        }

        /** As which number the row of the reference at hand would be shown; NONE if it tells no row. */
        private int rowAtHand() {
            int number = 0;
            for (int k = starts[token] + 1; k < starts[token + 1]; k++) {
                if (number == 0 && draft.charAt(k) == '0') {
                    return NONE;
                }
                number = number * 10 + (draft.charAt(k) - '0');
            }
            return number - 1;
        }

        private Part readNumber() {
            long number = isOfNumber(charAtHand()) ? numberAtHand() : NONE;
            if (number < 0 || number > GREATEST) {
                fail();
                return Part.ofNumber(0);
            }
            goOn();
            return Part.ofNumber(number);
        }

        /** The number at hand, which may still be too great; NONE if it is none by its digits. */
        private long numberAtHand() {
            int before = 0;
            int behind = 0;
            int points = 0;
            long number = 0;
            for (int k = starts[token]; k < starts[token + 1]; k++) {
                if (draft.charAt(k) == '.') {
                    points++;
                } else {
                    number = number * 10 + (draft.charAt(k) - '0');
                    before += points == 0 ? 1 : 0;
                    behind += points == 0 ? 0 : 1;
                }
            }
            boolean goodBefore = before >= 1 && before <= DIGITS_BEFORE;
            boolean goodBehind = points == 0 || points == 1 && behind >= 1 && behind <= DIGITS_BEHIND;
            if (!goodBefore || !goodBehind) {
                return NONE;
            }
            for (int k = behind; k < DIGITS_BEHIND; k++) {
                number = number * 10;
            }
            return number;
        }

        private void pass(char c) {
            if (charAtHand() == c) {
                goOn();
            } else {
                fail();
            }
        }

        private void fail() {
            if (fault == NONE) {
                fault = starts[token];
            }
        }

        private void goOn() {
            if (token < tokens) {
                token++;
            }
        }

        private boolean isAt(char c) {
            return charAtHand() == c;
        }

        /** The first character of the token at hand; one that no text has behind the last token. */
        private char charAtHand() {
            return token < tokens ? draft.charAt(starts[token]) : 0;
        }

        private static boolean isDigit(char c) {
            return c >= '0' && c <= '9';
        }

        private static boolean isOfNumber(char c) {
            return isDigit(c) || c == '.';
        }

        private static boolean isCapital(char c) {
            return c >= 'A' && c <= 'Z';
        }
    }

    /**
     * Calculates the cells of an office that are shown and hold something; its arrays are used again by each
     * call. A result is a number, or an error, which is told as so much more than the greatest number.
     */
    private static final class Calculator {
        // The writes that fill the cells, row by row; each cell takes an act, so there is room for all.
        private final Act[] cells = new Act[ALL_ACTS];
        private final long[] results = new long[ALL_ACTS];
        private final boolean[] settled = new boolean[ALL_ACTS];
        private int filled = 0;
        private Axis rows;
        private Axis columns;
        // Whether the formula at hand has read a cell that is not settled.
        private boolean early = false;

        /**
         * A cell is settled when all that it reads are. Those that stay read, by whatever cells, one that
         * reads itself: each of them reads another one that stays, which can only go on in a ring.
         */
        void calculate(Office office) {
            layOut(office);
            boolean goesOn = true;
            for (int pass = 0; pass < filled && goesOn; pass++) {
                goesOn = false;
                for (int i = 0; i < filled; i++) {
                    if (!settled[i]) {
                        early = false;
                        results[i] = evaluate(cells[i].content, 0);
                        settled[i] = !early;
                        goesOn = goesOn || !early;
                    }
                }
            }
        }

        /** The result of a cell that the office shows that was calculated last. */
        long resultOf(Line row, Line column) {
            int cell = cellOf(row, column);
            if (cell == NONE) {
                return 0;
            }
            return settled[cell] ? results[cell] : ofError(READS_ITSELF);
        }

        static boolean isError(long result) {
            return result > GREATEST;
        }

        static int errorOf(long result) {
            return (int) (result - GREATEST);
        }

        private static long ofError(int error) {
            return GREATEST + error;
        }

        private void layOut(Office office) {
            rows = office.axes[ROW];
            columns = office.axes[COLUMN];
            filled = 0;
            for (int i = 0; i < office.writes.size(); i++) {
                Act write = office.writes.get(i);
                if (write.content != null && isShown(write.row, write.column)) {
                    add(write);
                }
            }
        }

        private void add(Act write) {
            int at = filled;
            while (at > 0 && standsBefore(write, cells[at - 1])) {
                cells[at] = cells[at - 1];
                at--;
            }
            cells[at] = write;
            results[filled] = 0;
            settled[filled] = false;
            filled++;
        }

        private boolean standsBefore(Act write, Act other) {
            int down = rows.positionOf(write.row) - rows.positionOf(other.row);
            return down < 0 || down == 0 && columns.positionOf(write.column) < columns.positionOf(other.column);
        }

        private boolean isShown(Line row, Line column) {
            return rows.positionOf(row) != NONE && columns.positionOf(column) != NONE;
        }

        /** Where the cells have this one; NONE if it holds nothing. */
        private int cellOf(Line row, Line column) {
            for (int i = 0; i < filled; i++) {
                if (cells[i].writes(row, column)) {
                    return i;
                }
            }
            return NONE;
        }

        /** Goes through all parts, also when one has an error, because all that they read counts. */
        private long evaluate(Part part, int depth) {
            if (part == null || depth > DEEPEST) {
                return 0;
            }
            switch (part.kind) {
                case FORMULA:
                    return evaluate(part.right, depth + 1);
                case NUMBER:
                    return part.number;
                case REFERENCE:
                    return ofReference(part);
                case NEGATIVE:
                    long result = evaluate(part.right, depth + 1);
                    return isError(result) ? result : -result;
                case SUM:
                case COUNT:
                case MOST:
                    return ofBlock(part);
                default:
                    long left = evaluate(part.left, depth + 1);
                    long right = evaluate(part.right, depth + 1);
                    return ofTwo(part.kind, left, right);
            }
        }

        private static long ofTwo(PartKind kind, long x, long y) {
            if (isError(x)) {
                return x;
            }
            if (isError(y)) {
                return y;
            }
            switch (kind) {
                case PLUS:
                    return ofNumber(x + y);
                case MINUS:
                    return ofNumber(x - y);
                case TIMES:
                    return ofNumber(quotient(x * y, UNIT));
                default:
                    return y == 0 ? ofError(QUOTIENT_BY_ZERO) : ofNumber(quotient(x * UNIT, y));
            }
        }

        private static long ofNumber(long number) {
            return number < -GREATEST || number > GREATEST ? ofError(NO_NUMBER) : number;
        }

        /** Rounded, halves to the even one. */
        private static long quotient(long x, long y) {
            if (y == 0) {
                return 0;
            }
            long whole = x / y;
            long twiceRest = 2 * Math.abs(x % y);
            long size = Math.abs(y);
            if (twiceRest > size || twiceRest == size && whole % 2 != 0) {
                return (x < 0) == (y < 0) ? whole + 1 : whole - 1;
            }
            return whole;
        }

        private long ofReference(Part part) {
            if (!isShown(part.row, part.column)) {
                return ofError(LINE_NOT_SHOWN);
            }
            int cell = cellOf(part.row, part.column);
            return cell == NONE ? 0 : lookAt(cell);
        }

        /** Cells that hold nothing add nothing to a block, so it goes over the others alone. */
        private long ofBlock(Part part) {
            if (!isShown(part.row, part.column) || !isShown(part.rowTo, part.columnTo)) {
                return ofError(LINE_NOT_SHOWN);
            }
            long count = 0;
            long error = 0;
            long sum = 0;
            long most = 0;
            for (int i = 0; i < filled; i++) {
                if (!isWithin(part, cells[i])) {
                    continue;
                }
                long result = lookAt(i);
                count++;
                if (isError(result)) {
                    error = error == 0 ? result : error;
                } else {
                    sum = isError(sum) ? sum : ofNumber(sum + result);
                    most = count == 1 ? result : Math.max(most, result);
                }
            }
            if (part.kind == PartKind.COUNT) {
                return count * UNIT;
            }
            // An error of a cell goes before the sum's own, though that may have come earlier.
            if (error != 0) {
                return error;
            }
            return part.kind == PartKind.SUM ? sum : most;
        }

        private boolean isWithin(Part block, Act cell) {
            return rows.standsWithin(cell.row, block.row, block.rowTo)
                    && columns.standsWithin(cell.column, block.column, block.columnTo);
        }

        private long lookAt(int cell) {
            early = early || !settled[cell];
            return results[cell];
        }
    }

    /** Writes contents into OUT, which is its text, with the names that lines have now. */
    private static final class Writer {
        private final StringBuilder text = new StringBuilder();
        private Axis rows;
        private Axis columns;

        /** The text becomes the content, written; null is nothing. */
        void write(Part content, Axis shownRows, Axis shownColumns) {
            rows = shownRows;
            columns = shownColumns;
            text.setLength(0);
            writePart(content, 0);
        }

        private void writePart(Part part, int depth) {
            if (part == null || depth > DEEPEST) {
                return;
            }
            switch (part.kind) {
                case NUMBER:
                    writeNumber(part.number);
                    break;
                case REFERENCE:
                    writeReference(part);
                    break;
                case SUM:
                case COUNT:
                case MOST:
                    writeBlock(part);
                    break;
                default:
                    writeLeft(part, depth);
                    text.append(part.kind.sign);
                    writeRight(part, depth);
                    break;
            }
        }

        private void writeLeft(Part part, int depth) {
            writeBracketed(part.left, part.kind.isProduct() && isSum(part.left), depth + 1);
        }

        private void writeRight(Part part, int depth) {
            boolean brackets = isSum(part.right) && part.kind != PartKind.FORMULA
                    || isProduct(part.right) && (part.kind.isProduct() || part.kind == PartKind.NEGATIVE);
            writeBracketed(part.right, brackets, depth + 1);
        }

        private void writeBracketed(Part part, boolean brackets, int depth) {
            if (brackets) {
                text.append('(');
            }
            writePart(part, depth);
            if (brackets) {
                text.append(')');
            }
        }

        private static boolean isSum(Part part) {
            return part != null && part.kind.isSum();
        }

        private static boolean isProduct(Part part) {
            return part != null && part.kind.isProduct();
        }

        private void writeNumber(long number) {
            if (number < 0) {
                text.append('-');
            }
            int size = (int) Math.abs(number);
            text.append(size / UNIT);
            int rest = size % UNIT;
            if (rest != 0) {
                text.append('.');
            }
            for (int unit = UNIT / 10; unit > 0 && rest != 0; unit = unit / 10) {
                text.append(rest / unit);
                rest = rest % unit;
            }
        }

        private void writeReference(Part part) {
            if (hasName(part.row, part.column)) {
                writeName(part.row, part.column);
            } else {
                text.append('#');
            }
        }

        private void writeBlock(Part part) {
            text.append(part.kind.sign);
            text.append('(');
            if (hasName(part.row, part.column) && hasName(part.rowTo, part.columnTo)) {
                writeName(part.row, part.column);
                text.append(':');
                writeName(part.rowTo, part.columnTo);
            } else {
                text.append('#');
            }
            text.append(')');
        }

        private boolean hasName(Line row, Line column) {
            int letter = columns.positionOf(column);
            return rows.positionOf(row) != NONE && letter != NONE && letter < LETTERS;
        }

        private void writeName(Line row, Line column) {
            text.append((char) ('A' + columns.positionOf(column)));
            text.append(rows.positionOf(row) + 1);
        }
    }
}
