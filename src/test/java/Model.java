import java.math.BigDecimal;
import java.math.RoundingMode;
import java.util.ArrayDeque;
import java.util.ArrayList;
import java.util.Comparator;
import java.util.Deque;
import java.util.HashMap;
import java.util.HashSet;
import java.util.LinkedHashMap;
import java.util.LinkedHashSet;
import java.util.List;
import java.util.Map;
import java.util.Objects;
import java.util.Set;
import java.util.regex.Matcher;
import java.util.regex.Pattern;

/**
 * The document's words by the plainest way: an office is the set of acts that it took, and each answer
 * is made from that set anew. It shares no thought with OfficeSheet where there was a choice.
 */
public final class Model {
    private static final int NONE = -1;
    private static final Comparator<Act> STAMP =
            Comparator.comparingInt((Act act) -> act.clock).thenComparingInt(act -> act.maker);
    private static final Pattern TOKEN = Pattern.compile("[0-9.]+|[A-Z][0-9]{0,2}|.");
    private static final BigDecimal LIMIT = new BigDecimal(100000);

    private enum Kind { PUT, MOVE, BACK, THERE, GONE, WRITE }

    private static final class Act {
        Kind kind;
        int maker;
        int number;
        int clock;
        Set<Act> past;
        int lineKind;
        int line;
        Act after;
        Act place;
        Act placeBefore;
        Cell cell;
        Content content;
        Content contentBefore;
    }

    private record Cell(int row, int column) {
    }

    private record Content(boolean formula, Node node) {
    }

    private record Node(char sign, BigDecimal number, Cell from, Cell to, Node left, Node right) {
    }

    private record Result(int error, BigDecimal number) {
    }

    private record Token(int at, String text) {
    }

    private String draft = "";
    private String out = "";
    private final List<List<Act>> made = List.of(new ArrayList<>(), new ArrayList<>(), new ArrayList<>());
    private final List<Set<Act>> taken = List.of(new LinkedHashSet<>(), new LinkedHashSet<>(), new LinkedHashSet<>());
    private final List<Set<Act>> waits = List.of(new LinkedHashSet<>(), new LinkedHashSet<>(), new LinkedHashSet<>());

    public int type(char c) {
        demand(c >= 32 && c <= 126, new IllegalArgumentException());
        demand(draft.length() < 20, new IllegalStateException());
        draft += c;
        return draft.length();
    }

    public void cut(int n) {
        demand(n >= 0 && n <= draft.length(), new IllegalArgumentException());
        draft = draft.substring(0, n);
    }

    public int put(int office, int kind, int after) {
        demandOffice(office);
        demandKind(kind);
        demand(after >= NONE && after < shown(office, kind).size(), new IndexOutOfBoundsException());
        demandActs(office);
        demand(shown(office, kind).size() < (kind == 0 ? 9 : 5), new IllegalStateException());
        Act act = newAct(office, Kind.PUT);
        act.lineKind = kind;
        act.line = 100 * office + act.number;
        act.after = after == NONE ? null : placeOf(office, shown(office, kind).get(after));
        act.place = act;
        take(office, act);
        return act.line;
    }

    public void move(int office, int kind, int i, int after) {
        demandOffice(office);
        demandKind(kind);
        demandLine(office, kind, i);
        demand(after >= NONE && after < shown(office, kind).size(), new IndexOutOfBoundsException());
        demandActs(office);
        Act act = newAct(office, Kind.MOVE);
        act.lineKind = kind;
        act.line = shown(office, kind).get(i);
        act.after = after == NONE ? null : placeOf(office, shown(office, kind).get(after));
        act.place = act;
        act.placeBefore = placeOf(office, act.line);
        take(office, act);
    }

    public void remove(int office, int kind, int i) {
        demandOffice(office);
        demandKind(kind);
        demandLine(office, kind, i);
        demandActs(office);
        Act act = newAct(office, Kind.GONE);
        act.lineKind = kind;
        act.line = shown(office, kind).get(i);
        take(office, act);
    }

    public int enter(int office, int row, int column) {
        Cell cell = demandCell(office, row, column);
        demandActs(office);
        int fault = faultOf(office);
        if (fault == NONE) {
            write(office, cell, contentOfDraft(office));
        }
        return fault;
    }

    public boolean undo(int office) {
        demandOffice(office);
        demand(!made.get(office).isEmpty(), new UnsupportedOperationException());
        demandActs(office);
        Act last = made.get(office).get(made.get(office).size() - 1);
        if (last.kind == Kind.WRITE) {
            if (latest(writes(office, last.cell)) != last) {
                return false;
            }
            write(office, last.cell, last.contentBefore);
            return true;
        }
        boolean ofPlace = last.kind == Kind.MOVE || last.kind == Kind.BACK;
        if (last != (ofPlace ? latestOfPlace(office, last.line) : latestOfBeing(office, last.line))) {
            return false;
        }
        Act act = newAct(office, ofPlace ? Kind.BACK : last.kind == Kind.GONE ? Kind.THERE : Kind.GONE);
        act.lineKind = last.lineKind;
        act.line = last.line;
        if (ofPlace) {
            act.place = last.placeBefore;
            act.placeBefore = placeOf(office, last.line);
        }
        take(office, act);
        return true;
    }

    public int deliver(int to, int from, int number) {
        demandOffice(to);
        demandOffice(from);
        demand(to != from && number >= 1 && number <= made.get(from).size(), new IllegalArgumentException());
        Act act = made.get(from).get(number - 1);
        if (taken.get(to).contains(act) || waits.get(to).contains(act)) {
            return 0;
        }
        waits.get(to).add(act);
        boolean again = true;
        while (again) {
            again = false;
            for (int office = 0; office < 3 && !again; office++) {
                for (Act waiting : List.copyOf(waits.get(to))) {
                    if (waiting.maker == office && taken.get(to).containsAll(waiting.past)) {
                        waits.get(to).remove(waiting);
                        taken.get(to).add(waiting);
                        again = true;
                        break;
                    }
                }
            }
        }
        return taken.get(to).contains(act) ? 1 : 2;
    }

    public int known(int office, int of) {
        demandOffice(office);
        demandOffice(of);
        return (int) taken.get(office).stream().filter(act -> act.maker == of).count();
    }

    public int waiting(int office) {
        demandOffice(office);
        return waits.get(office).size();
    }

    public int lines(int office, int kind) {
        demandOffice(office);
        demandKind(kind);
        return shown(office, kind).size();
    }

    public int line(int office, int kind, int i) {
        demandOffice(office);
        demandKind(kind);
        demandLine(office, kind, i);
        return shown(office, kind).get(i);
    }

    public int value(int office, int row, int column) {
        Cell cell = demandCell(office, row, column);
        Result result = new Reckoning(office).resultOf(cell);
        return result.error != 0 ? 0 : result.number.movePointRight(4).intValueExact();
    }

    public int error(int office, int row, int column) {
        return new Reckoning(office, demandCell(office, row, column)).error;
    }

    public int also(int office, int row, int column) {
        Cell cell = demandCell(office, row, column);
        List<Act> writes = writes(office, cell);
        Act counts = latest(writes);
        return (int) writes.stream()
                .filter(act -> act != counts && writes.stream().noneMatch(other -> other.past.contains(act)))
                .count();
    }

    public int print(int office, int row, int column) {
        Content content = held(office, demandCell(office, row, column));
        if (content == null) {
            out = "";
        } else {
            out = (content.formula ? "=" : "") + written(office, content.node);
        }
        return out.length();
    }

    public int out(int k) {
        demand(k >= 0 && k < out.length(), new IndexOutOfBoundsException());
        return out.charAt(k);
    }

    private static void demand(boolean holds, RuntimeException otherwise) {
        if (!holds) {
            throw otherwise;
        }
    }

    private static void demandOffice(int office) {
        demand(office >= 0 && office <= 2, new IllegalArgumentException());
    }

    private static void demandKind(int kind) {
        demand(kind == 0 || kind == 1, new IllegalArgumentException());
    }

    private void demandLine(int office, int kind, int i) {
        demand(i >= 0 && i < shown(office, kind).size(), new IndexOutOfBoundsException());
    }

    private void demandActs(int office) {
        demand(made.get(office).size() < 40, new IllegalStateException());
    }

    private Cell demandCell(int office, int row, int column) {
        demandOffice(office);
        demandLine(office, 0, row);
        demandLine(office, 1, column);
        return new Cell(shown(office, 0).get(row), shown(office, 1).get(column));
    }

    private Act newAct(int office, Kind kind) {
        Act act = new Act();
        act.kind = kind;
        act.maker = office;
        act.number = made.get(office).size() + 1;
        act.past = new HashSet<>(taken.get(office));
        act.clock = 1 + act.past.stream().mapToInt(other -> other.clock).max().orElse(0);
        return act;
    }

    private void take(int office, Act act) {
        made.get(office).add(act);
        taken.get(office).add(act);
    }

    private void write(int office, Cell cell, Content content) {
        Act act = newAct(office, Kind.WRITE);
        act.cell = cell;
        act.content = content;
        act.contentBefore = held(office, cell);
        take(office, act);
    }

    private static Act latest(List<Act> acts) {
        return acts.stream().max(STAMP).orElse(null);
    }

    private Act latestOf(int office, int line, Set<Kind> kinds) {
        return latest(taken.get(office).stream().filter(act -> kinds.contains(act.kind) && act.line == line).toList());
    }

    private Act latestOfPlace(int office, int line) {
        return latestOf(office, line, Set.of(Kind.PUT, Kind.MOVE, Kind.BACK));
    }

    private Act latestOfBeing(int office, int line) {
        return latestOf(office, line, Set.of(Kind.PUT, Kind.THERE, Kind.GONE));
    }

    private Act placeOf(int office, int line) {
        return latestOfPlace(office, line).place;
    }

    private List<Act> writes(int office, Cell cell) {
        return taken.get(office).stream().filter(act -> act.kind == Kind.WRITE && act.cell.equals(cell)).toList();
    }

    private Content held(int office, Cell cell) {
        Act act = latest(writes(office, cell));
        return act == null ? null : act.content;
    }

    private List<Integer> shown(int office, int kind) {
        List<Act> order = new ArrayList<>();
        addAllAfter(null, office, kind, order);
        return order.stream()
                .filter(place -> placeOf(office, place.line) == place)
                .map(place -> place.line)
                .filter(line -> latestOfBeing(office, line).kind != Kind.GONE)
                .toList();
    }

    private void addAllAfter(Act place, int office, int kind, List<Act> order) {
        List<Act> next = taken.get(office).stream()
                .filter(act -> act.place == act && act.lineKind == kind && act.after == place)
                .sorted(STAMP.reversed())
                .toList();
        for (Act act : next) {
            order.add(act);
            addAllAfter(act, office, kind, order);
        }
    }

    private List<Token> tokens() {
        List<Token> tokens = new ArrayList<>();
        Matcher matcher = TOKEN.matcher(draft);
        while (matcher.find()) {
            tokens.add(new Token(matcher.start(), matcher.group()));
        }
        return tokens;
    }

    /** Goes over the tokens with what may stand next in a stack, and builds nothing. */
    private int faultOf(int office) {
        List<Token> tokens = tokens();
        if (tokens.isEmpty()) {
            return NONE;
        }
        Deque<String> due = new ArrayDeque<>();
        int first = 1;
        if (tokens.get(0).text.equals("=")) {
            due.push("operand");
        } else if (tokens.get(0).text.equals("-")) {
            due.push("number");
        } else {
            due.push("number");
            first = 0;
        }
        for (Token token : tokens.subList(first, tokens.size())) {
            if (due.isEmpty() || !passes(office, token.text, due)) {
                return token.at;
            }
        }
        return due.isEmpty() || due.size() == 1 && due.peek().equals("operator") ? NONE : draft.length();
    }

    private boolean passes(int office, String token, Deque<String> due) {
        String now = due.pop();
        switch (now) {
            case "number":
                return isNumber(token);
            case "reference":
                return isReference(office, token);
            case "operand":
                if (token.equals("-")) {
                    due.push("operand");
                    return true;
                }
                due.push("operator");
                if (token.equals("(")) {
                    due.push("operand");
                    return true;
                }
                if ("snm".contains(token)) {
                    for (String one : new String[] {")", "reference", ":", "reference", "("}) {
                        due.push(one);
                    }
                    return true;
                }
                return isNumber(token) || isReference(office, token);
            case "operator":
                if (token.equals(")")) {
                    return due.size() >= 1;
                }
                due.push("operand");
                return "+-*/".contains(token);
            default:
                return token.equals(now);
        }
    }

    private static boolean isNumber(String token) {
        return token.matches("[0-9]{1,6}([.][0-9]{1,4})?") && new BigDecimal(token).compareTo(LIMIT) <= 0;
    }

    private boolean isReference(int office, String token) {
        return token.matches("[A-Z][1-9][0-9]?")
                && token.charAt(0) - 'A' < shown(office, 1).size()
                && Integer.parseInt(token.substring(1)) <= shown(office, 0).size();
    }

    private Content contentOfDraft(int office) {
        if (draft.isEmpty()) {
            return null;
        }
        if (!draft.startsWith("=")) {
            return new Content(false, leaf(new BigDecimal(draft)));
        }
        List<Token> tokens = tokens();
        Deque<String> rest = new ArrayDeque<>();
        tokens.subList(1, tokens.size()).forEach(token -> rest.add(token.text));
        return new Content(true, expression(office, rest, 0));
    }

    private static Node leaf(BigDecimal number) {
        return new Node('0', number, null, null, null, null);
    }

    private static int strength(String sign) {
        return sign == null ? -1 : switch (sign) {
            case "+", "-" -> 1;
            case "*", "/" -> 2;
            default -> -1;
        };
    }

    private Node expression(int office, Deque<String> rest, int least) {
        Node node = operand(office, rest);
        while (strength(rest.peek()) > least) {
            String sign = rest.poll();
            Node right = expression(office, rest, strength(sign));
            node = new Node(sign.charAt(0), null, null, null, node, right);
        }
        return node;
    }

    private Node operand(int office, Deque<String> rest) {
        String token = rest.poll();
        if (token.equals("-")) {
            return new Node('~', null, null, null, null, operand(office, rest));
        }
        if (token.equals("(")) {
            Node node = expression(office, rest, 0);
            rest.poll();
            return node;
        }
        if ("snm".contains(token)) {
            rest.poll();
            Cell from = named(office, rest.poll());
            rest.poll();
            Cell to = named(office, rest.poll());
            rest.poll();
            return new Node(token.charAt(0), null, from, to, null, null);
        }
        if (Character.isUpperCase(token.charAt(0))) {
            return new Node('A', null, named(office, token), null, null, null);
        }
        return leaf(new BigDecimal(token));
    }

    private Cell named(int office, String name) {
        return new Cell(shown(office, 0).get(Integer.parseInt(name.substring(1)) - 1),
                shown(office, 1).get(name.charAt(0) - 'A'));
    }

    private String written(int office, Node node) {
        switch (node.sign) {
            case '0':
                return node.number.signum() == 0 ? "0" : node.number.stripTrailingZeros().toPlainString();
            case 'A':
                return nameOf(office, node.from);
            case 's':
            case 'n':
            case 'm':
                String from = nameOf(office, node.from);
                String to = nameOf(office, node.to);
                String inner = from.equals("#") || to.equals("#") ? "#" : from + ":" + to;
                return node.sign + "(" + inner + ")";
            case '~':
                return "-" + bracketed(office, node.right, "+-*/");
            case '+':
            case '-':
                return written(office, node.left) + node.sign + bracketed(office, node.right, "+-");
            default:
                return bracketed(office, node.left, "+-") + node.sign + bracketed(office, node.right, "+-*/");
        }
    }

    private String bracketed(int office, Node node, String which) {
        String text = written(office, node);
        return which.indexOf(node.sign) >= 0 ? "(" + text + ")" : text;
    }

    private String nameOf(int office, Cell cell) {
        int row = shown(office, 0).indexOf(cell.row);
        int column = shown(office, 1).indexOf(cell.column);
        return row < 0 || column < 0 || column > 25 ? "#" : (char) ('A' + column) + "" + (row + 1);
    }

    /** The results of one office's cells, each made when it is asked for. */
    private final class Reckoning {
        private final List<Integer> rows;
        private final List<Integer> columns;
        private final Map<Cell, Content> contents = new LinkedHashMap<>();
        private final Map<Cell, Set<Cell>> reads = new HashMap<>();
        private final Map<Cell, Result> results = new HashMap<>();
        private int error;

        Reckoning(int office) {
            rows = shown(office, 0);
            columns = shown(office, 1);
            for (int row : rows) {
                for (int column : columns) {
                    Cell cell = new Cell(row, column);
                    Content content = held(office, cell);
                    contents.put(cell, content);
                    Set<Cell> read = new LinkedHashSet<>();
                    if (content != null) {
                        addReads(content.node, read);
                    }
                    reads.put(cell, read);
                }
            }
        }

        Reckoning(int office, Cell cell) {
            this(office);
            error = resultOf(cell).error;
        }

        private void addReads(Node node, Set<Cell> read) {
            if (node == null) {
                return;
            }
            if (node.from != null) {
                List<Cell> block = blockOf(node);
                if (block != null) {
                    read.addAll(block);
                }
            }
            addReads(node.left, read);
            addReads(node.right, read);
        }

        /** The cells of a reference or block, row by row; null if a line is not shown. */
        private List<Cell> blockOf(Node node) {
            Cell to = Objects.requireNonNullElse(node.to, node.from);
            int top = Math.min(rows.indexOf(node.from.row), rows.indexOf(to.row));
            int bottom = Math.max(rows.indexOf(node.from.row), rows.indexOf(to.row));
            int first = Math.min(columns.indexOf(node.from.column), columns.indexOf(to.column));
            int last = Math.max(columns.indexOf(node.from.column), columns.indexOf(to.column));
            if (top < 0 || first < 0) {
                return null;
            }
            List<Cell> block = new ArrayList<>();
            for (int row : rows.subList(top, bottom + 1)) {
                for (int column : columns.subList(first, last + 1)) {
                    block.add(new Cell(row, column));
                }
            }
            return block;
        }

        private Set<Cell> allRead(Cell cell) {
            Set<Cell> all = new LinkedHashSet<>();
            Deque<Cell> open = new ArrayDeque<>(reads.get(cell));
            while (!open.isEmpty()) {
                Cell next = open.poll();
                if (all.add(next)) {
                    open.addAll(reads.get(next));
                }
            }
            return all;
        }

        Result resultOf(Cell cell) {
            if (!results.containsKey(cell)) {
                Set<Cell> all = allRead(cell);
                boolean ring = all.contains(cell) || all.stream().anyMatch(other -> allRead(other).contains(other));
                Content content = contents.get(cell);
                results.put(cell, ring ? new Result(3, null)
                        : content == null ? new Result(0, BigDecimal.ZERO) : resultOf(content.node));
            }
            return results.get(cell);
        }

        private Result resultOf(Node node) {
            if (node.sign == '0') {
                return new Result(0, node.number);
            }
            if (node.sign == '~') {
                Result result = resultOf(node.right);
                return result.error != 0 ? result : new Result(0, result.number.negate());
            }
            if (node.from == null) {
                return ofTwo(node.sign, resultOf(node.left), resultOf(node.right));
            }
            List<Cell> block = blockOf(node);
            if (block == null) {
                return new Result(2, null);
            }
            return node.sign == 'A' ? resultOf(node.from) : ofBlock(node.sign, block);
        }

        private Result ofTwo(char sign, Result x, Result y) {
            if (x.error != 0) {
                return x;
            }
            if (y.error != 0) {
                return y;
            }
            if (sign == '/' && y.number.signum() == 0) {
                return new Result(1, null);
            }
            return checked(switch (sign) {
                case '+' -> x.number.add(y.number);
                case '-' -> x.number.subtract(y.number);
                case '*' -> x.number.multiply(y.number).setScale(4, RoundingMode.HALF_EVEN);
                default -> x.number.divide(y.number, 4, RoundingMode.HALF_EVEN);
            });
        }

        private Result checked(BigDecimal number) {
            return number.abs().compareTo(LIMIT) > 0 ? new Result(4, null) : new Result(0, number);
        }

        private Result ofBlock(char sign, List<Cell> block) {
            List<Cell> holding = block.stream().filter(cell -> contents.get(cell) != null).toList();
            if (sign == 'n') {
                return new Result(0, new BigDecimal(holding.size()));
            }
            for (Cell cell : holding) {
                if (resultOf(cell).error != 0) {
                    return resultOf(cell);
                }
            }
            List<BigDecimal> numbers = holding.stream().map(cell -> resultOf(cell).number).toList();
            if (sign == 'm') {
                return new Result(0, numbers.stream().max(Comparator.naturalOrder()).orElse(BigDecimal.ZERO));
            }
            Result sum = new Result(0, BigDecimal.ZERO);
            for (BigDecimal number : numbers) {
                sum = sum.error != 0 ? sum : checked(sum.number.add(number));
            }
            return sum;
        }
    }
}
