import java.lang.reflect.InvocationTargetException;
import java.lang.reflect.Method;
import java.util.ArrayList;
import java.util.Arrays;
import java.util.List;
import java.util.Random;

/** All promises together: runs of calls, always the same ones, whose answers Model knows. */
public final class ModelTest {
    private static final int RUNS = 300;
    private static final int CALLS = 512;

    private final Random random;
    private final int run;
    private final OfficeSheet sheet = new OfficeSheet();
    private final Model model = new Model();
    private final List<String> calls = new ArrayList<>();
    // How often an office acts and how far its acts go around differ from run to run.
    private final int lively;
    private final int wrongs;

    private ModelTest(int run) {
        this.run = run;
        this.random = new Random(run);
        this.lively = 1 + random.nextInt(4);
        this.wrongs = random.nextInt(3) == 0 ? 10 : 200;
    }

    public static void main(String[] args) throws ReflectiveOperationException {
        int runs = args.length > 0 ? Integer.parseInt(args[0]) : RUNS;
        for (int run = 0; run < runs; run++) {
            new ModelTest(run).play();
        }
        Check.end();
    }

    private void play() throws ReflectiveOperationException {
        for (int i = 0; i < 6; i++) {
            call("put", i % 2 == 0 ? 0 : random.nextInt(3), i / 3, -1);
        }
        while (calls.size() < CALLS - 150) {
            act();
        }
        while (calls.size() < CALLS - 40) {
            look();
        }
    }

    private void act() throws ReflectiveOperationException {
        int office = office();
        int choice = random.nextInt(20 + 4 * lively);
        if (choice < 2) {
            call("put", office, random.nextInt(2), shown(office, 0) - 1);
        } else if (choice < 4) {
            int kind = random.nextInt(2);
            call("move", office, kind, shown(office, kind), shown(office, kind) - random.nextInt(2));
        } else if (choice < 5) {
            int kind = random.nextInt(2);
            call("remove", office, kind, shown(office, kind));
        } else if (choice < 11) {
            if (random.nextInt(3) != 0) {
                draft();
            }
            call("enter", office, shown(office, 0), shown(office, 1));
        } else if (choice < 13) {
            call("undo", office);
        } else if (choice < 15) {
            look();
        } else {
            int from = random.nextInt(wrongs) == 0 ? office() : Math.floorMod(office + 1 + random.nextInt(2), 3);
            int next = model.known(Math.floorMod(office, 3), Math.floorMod(from, 3)) + 1;
            call("deliver", office, from, random.nextInt(4) == 0 ? next + random.nextInt(4) - 1 : next);
        }
    }

    private void look() throws ReflectiveOperationException {
        int office = office();
        int kind = random.nextInt(2);
        switch (random.nextInt(9)) {
            case 0:
                call("known", office, office());
                break;
            case 1:
                call("waiting", office);
                break;
            case 2:
                call("lines", office, kind);
                break;
            case 3:
                call("line", office, kind, shown(office, kind));
                break;
            case 4:
                call("also", office, shown(office, 0), shown(office, 1));
                break;
            case 5:
                print(office);
                break;
            default:
                int row = shown(office, 0);
                int column = shown(office, 1);
                call("error", office, row, column);
                call("value", office, row, column);
        }
    }

    private void print(int office) throws ReflectiveOperationException {
        long length = call("print", office, shown(office, 0), shown(office, 1));
        for (int k = 0; k < Math.min(length, 25); k++) {
            call("out", k);
        }
        if (random.nextInt(10) == 0) {
            call("out", (int) length);
        }
    }

    private int office() {
        return random.nextInt(wrongs) == 0 ? random.nextInt(5) - 1 : random.nextInt(3);
    }

    /** Mostly a line that is shown there. */
    private int shown(int office, int kind) {
        int lines = office < 0 || office > 2 ? 3 : model.lines(office, kind);
        return random.nextInt(wrongs) == 0 || lines == 0 ? random.nextInt(lines + 3) - 2 : random.nextInt(lines);
    }

    private void draft() throws ReflectiveOperationException {
        String text = random.nextInt(4) == 0 ? number() : "=" + expression(3);
        if (random.nextInt(8) == 0 && text.length() > 1) {
            int at = random.nextInt(text.length());
            text = text.substring(0, at) + "=1.0(A):-s ".charAt(random.nextInt(11)) + text.substring(at + random.nextInt(2));
        }
        call("cut", 0);
        for (int i = 0; i < Math.min(text.length(), 21); i++) {
            call("type", text.charAt(i));
        }
    }

    private String number() {
        switch (random.nextInt(6)) {
            case 0:
                return "";
            case 1:
                return "-" + random.nextInt(100);
            case 2:
                return "100000";
            case 3:
                return random.nextInt(3) + "." + random.nextInt(3000);
            default:
                return "" + random.nextInt(20);
        }
    }

    private String expression(int depth) {
        switch (depth == 0 ? random.nextInt(4) : random.nextInt(10)) {
            case 0:
                return "" + random.nextInt(4);
            case 1:
            case 2:
                return reference();
            case 3:
                return "snm".charAt(random.nextInt(3)) + "(" + reference() + ":" + reference() + ")";
            case 4:
                return "-" + expression(depth - 1);
            case 5:
                return "(" + expression(depth - 1) + ")";
            default:
                return expression(depth - 1) + "+-*/".charAt(random.nextInt(4)) + expression(depth - 1);
        }
    }

    private String reference() {
        return "" + (char) ('A' + random.nextInt(random.nextInt(8) == 0 ? 6 : 3)) + (1 + random.nextInt(random.nextInt(8) == 0 ? 11 : 3));
    }

    private long call(String name, Object... given) throws ReflectiveOperationException {
        Class<?>[] types = new Class<?>[given.length];
        for (int i = 0; i < given.length; i++) {
            types[i] = given[i] instanceof Character ? char.class : int.class;
        }
        Object want = answer(Model.class.getMethod(name, types), model, given);
        Object got = answer(OfficeSheet.class.getMethod(name, types), sheet, given);
        calls.add(name + Arrays.toString(given));
        Check.due("run " + run + ", call " + calls.size() + ", " + calls.get(calls.size() - 1),
                String.valueOf(got), String.valueOf(want));
        return want instanceof Integer number ? number : 0;
    }

    private static Object answer(Method method, Object of, Object[] given) throws IllegalAccessException {
        try {
            return method.invoke(of, given);
        } catch (InvocationTargetException e) {
            return e.getCause().getClass().getSimpleName();
        }
    }
}
