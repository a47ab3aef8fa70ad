import java.lang.reflect.InvocationTargetException;
import java.lang.reflect.Method;
import java.util.Arrays;
import java.util.Random;

/** All promises together: runs of calls, always the same ones, whose answers Model knows. */
public final class ModelTest {
    private static final int RUNS = 400;
    private static final int CALLS = 512;
    private static final int LAST_LOOKS = 120;

    // How often put, move, remove, enter, undo, look and deliver are called, of which each run has one row.
    private static final int[][] HABITS = {
        {5, 7, 3, 1, 4, 2, 14},
        {0, 1, 0, 14, 4, 6, 6},
        {2, 2, 1, 6, 2, 3, 10},
        {1, 3, 2, 10, 5, 3, 4},
        {1, 6, 2, 9, 6, 0, 1},
    };
    private static final String[] CALLED = {"put", "move", "remove", "enter", "undo", "look", "deliver"};

    private final int run;
    private final Random random;
    private final int[] habit;
    // One in so many arguments is chosen as if nothing were known of the sheet.
    private final int careful;
    // One in so many entries is of a new draft.
    private final int lazy;
    private final OfficeSheet sheet = new OfficeSheet();
    private final Model model = new Model();
    private int calls = 0;

    private ModelTest(int run) {
        this.run = run;
        this.random = new Random(run);
        this.habit = HABITS[run % HABITS.length];
        this.careful = random.nextInt(3) == 0 ? 12 : 150;
        this.lazy = run % HABITS.length == 4 ? 6 : 2;
    }

    public static void main(String[] args) throws ReflectiveOperationException {
        int runs = args.length > 0 ? Integer.parseInt(args[0]) : RUNS;
        for (int run = 0; run < runs; run++) {
            new ModelTest(run).play();
        }
        Check.end();
    }

    private void play() throws ReflectiveOperationException {
        prepare();
        while (calls < CALLS - LAST_LOOKS - 50) {
            act();
        }
        for (int to = 0; to < 3 && random.nextBoolean(); to++) {
            deliverAll(to, (to + 1) % 3);
            deliverAll(to, (to + 2) % 3);
        }
        while (calls < CALLS - 30) {
            look();
        }
    }

    private void prepare() throws ReflectiveOperationException {
        int lines = 2 + random.nextInt(4);
        for (int i = 0; i < lines; i++) {
            call("put", 0, i < 2 ? i : random.nextInt(2), -1);
        }
        for (int to = 1; to < 3; to++) {
            if (random.nextInt(10) != 0) {
                deliverAll(to, 0);
            }
        }
    }

    private void deliverAll(int to, int from) throws ReflectiveOperationException {
        int all = model.known(from, from);
        for (int n = model.known(to, from) + 1; n <= all && calls < CALLS - LAST_LOOKS; n++) {
            call("deliver", to, from, n);
        }
    }

    private void act() throws ReflectiveOperationException {
        int office = office();
        int kind = random.nextInt(careful) == 0 ? random.nextInt(4) - 1 : random.nextInt(2);
        switch (CALLED[choose()]) {
            case "put":
                call("put", office, kind, shown(office, kind) - random.nextInt(2));
                break;
            case "move":
                call("move", office, kind, shown(office, kind), shown(office, kind) - random.nextInt(2));
                break;
            case "remove":
                call("remove", office, kind, shown(office, kind));
                break;
            case "enter":
                if (random.nextInt(lazy) == 0) {
                    draft();
                }
                call("enter", office, shown(office, 0), shown(office, 1));
                break;
            case "undo":
                call("undo", office);
                break;
            case "look":
                look();
                break;
            default:
                deliver(office);
        }
    }

    private int choose() {
        int left = random.nextInt(Arrays.stream(habit).sum());
        int i = 0;
        while (left >= habit[i]) {
            left -= habit[i];
            i++;
        }
        return i;
    }

    private void deliver(int office) throws ReflectiveOperationException {
        int from = random.nextInt(careful) == 0 ? office() : Math.floorMod(office + 1 + random.nextInt(2), 3);
        int next = model.known(Math.floorMod(office, 3), Math.floorMod(from, 3)) + 1;
        call("deliver", office, from, random.nextInt(4) == 0 ? next + random.nextInt(4) - 1 : next);
    }

    private void look() throws ReflectiveOperationException {
        int office = office();
        int kind = random.nextInt(careful) == 0 ? random.nextInt(4) - 1 : random.nextInt(2);
        int row = shown(office, 0);
        int column = shown(office, 1);
        switch (random.nextInt(10)) {
            case 0:
                call("known", office, office());
                break;
            case 1:
                call("waiting", office);
                break;
            case 2:
                call("lines", office, kind);
                break;
            case 3:
                call("line", office, kind, shown(office, kind));
                break;
            case 4:
            case 5:
                call("also", office, row, column);
                break;
            case 6:
                print(office, row, column);
                break;
            default:
                call("error", office, row, column);
                call("value", office, row, column);
        }
    }

    private void print(int office, int row, int column) throws ReflectiveOperationException {
        int length = call("print", office, row, column);
        for (int k = 0; k < Math.min(length, 25); k++) {
            call("out", k);
        }
        if (random.nextInt(10) == 0) {
            call("out", random.nextBoolean() ? length : -1);
        }
    }

    private int office() {
        return random.nextInt(careful) == 0 ? random.nextInt(5) - 1 : random.nextInt(3);
    }

    /** Mostly a line that is shown there, and rather one of the first. */
    private int shown(int office, int kind) {
        boolean real = office >= 0 && office < 3 && kind >= 0 && kind < 2;
        int lines = real ? model.lines(office, kind) : 3;
        if (lines == 0 || random.nextInt(careful) == 0) {
            return random.nextInt(lines + 4) - 2;
        }
        return Math.min(random.nextInt(lines), random.nextInt(lines));
    }

    private void draft() throws ReflectiveOperationException {
        String text = random.nextInt(3) == 0 ? number() : "=" + expression(random.nextInt(4));
        if (random.nextInt(12) == 0 && !text.isEmpty()) {
            int at = random.nextInt(text.length());
            char other = "=1.0(A):-s +9".charAt(random.nextInt(13));
            text = text.substring(0, at) + other + text.substring(at + random.nextInt(2));
        }
        call("cut", random.nextInt(careful) == 0 ? random.nextInt(24) - 2 : 0);
        for (int i = 0; i < Math.min(text.length(), 21); i++) {
            call("type", text.charAt(i));
        }
    }

    private String number() {
        switch (random.nextInt(7)) {
            case 0:
                return "";
            case 1:
                return "-" + random.nextInt(100);
            case 2:
                return "100000";
            case 3:
                return "-99999.9999";
            case 4:
                return random.nextInt(3) + "." + random.nextInt(3000);
            default:
                return "" + random.nextInt(20);
        }
    }

    private String expression(int depth) {
        switch (depth == 0 ? random.nextInt(5) : random.nextInt(11)) {
            case 0:
                return random.nextInt(3) == 0 ? "60000" : "" + random.nextInt(3);
            case 1:
            case 2:
            case 3:
                return reference();
            case 4:
                return "snm".charAt(random.nextInt(3)) + "(" + reference() + ":" + reference() + ")";
            case 5:
                return "-" + expression(depth - 1);
            case 6:
                return "(" + expression(depth - 1) + ")";
            default:
                return expression(depth - 1) + "+-*/".charAt(random.nextInt(4)) + expression(depth - 1);
        }
    }

    private String reference() {
        int column = random.nextInt(random.nextInt(8) == 0 ? 6 : 2);
        int row = 1 + random.nextInt(random.nextInt(8) == 0 ? 11 : 2);
        return (char) ('A' + column) + "" + row;
    }

    /** Calls both and compares; what Model answers, or 0 if that is no number. */
    private int call(String name, Object... given) throws ReflectiveOperationException {
        Class<?>[] types = new Class<?>[given.length];
        for (int i = 0; i < given.length; i++) {
            types[i] = given[i] instanceof Character ? char.class : int.class;
        }
        calls++;
        Object want = answer(Model.class.getMethod(name, types), model, given);
        Object got = answer(OfficeSheet.class.getMethod(name, types), sheet, given);
        Check.due("run " + run + ", call " + calls + ", " + name + Arrays.toString(given),
                String.valueOf(got), String.valueOf(want));
        return want instanceof Integer number ? number : 0;
    }

    private static Object answer(Method method, Object of, Object[] given) throws IllegalAccessException {
        try {
            return method.invoke(of, given);
        } catch (InvocationTargetException e) {
            return e.getCause().getClass().getSimpleName();
        }
    }
}
