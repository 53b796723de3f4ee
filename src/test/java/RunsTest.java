import java.lang.reflect.InvocationTargetException;
import java.lang.reflect.Method;
import java.util.Arrays;
import java.util.HashMap;
import java.util.Map;
import java.util.Random;

/** Runs of calls on fresh objects, the same ones each time, with the answers that Model gives. */
final class RunsTest {
    private static final int RUNS = 1500;
    private static final int CALLS = 500;

    private static final String[] NAMES = {
        "jumper", "rig", "lend", "lend", "pack", "pack", "pack", "pack", "renew", "renew", "pass", "wind", "wind",
        "board", "board", "board", "board", "board", "board", "empty", "fly", "fly", "hold", "gong", "ofJumper",
        "loading", "landed", "refuses", "ofRig", "wear", "ofWind", "many", "order", "wouldLand", "takes", "spot",
        "wouldMeet", "best", "digest"};

    private static final Map<String, Method> FACE = methods(ChuteLoft.class);
    private static final Map<String, Method> MODEL = methods(Model.class);

    public static void main(String[] args) {
        for (int run = 0; run < RUNS; run++) {
            compare(run);
        }
        Checks.finish();
    }

    private static Map<String, Method> methods(Class<?> type) {
        Map<String, Method> methods = new HashMap<>();
        for (Method method : type.getDeclaredMethods()) {
            if (Arrays.asList(NAMES).contains(method.getName())) {
                method.setAccessible(true);
                methods.put(method.getName(), method);
            }
        }
        return methods;
    }

    private static void compare(int run) {
        Random random = new Random(run);
        ChuteLoft loft = new ChuteLoft();
        Model model = new Model();
        for (int call = 0; call < CALLS; call++) {
            String name = call < 40 ? NAMES[call % 8] : NAMES[random.nextInt(NAMES.length)];
            Object[] given = arguments(name, run, random);
            Object got = answer(FACE.get(name), loft, given);
            Object due = answer(MODEL.get(name), model, given);
            if (!isSame(got, due)) {
                Checks.same("run " + run + ", call " + call + ": " + name + Arrays.toString(given), got, due);
                return;
            }
        }
        Checks.same("the digest of run " + run, loft.digest(), model.digest());
    }

    /** 0.0 and -0.0 are the same. */
    private static boolean isSame(Object got, Object due) {
        if (got instanceof Double && due instanceof Double) {
            return ((Double) got).doubleValue() == ((Double) due).doubleValue();
        }
        return got.equals(due);
    }

    private static Object answer(Method method, Object on, Object[] given) {
        try {
            return method.invoke(on, given);
        } catch (InvocationTargetException e) {
            return "throws." + e.getCause().getClass().getSimpleName();
        } catch (IllegalAccessException e) {
            throw new AssertionError(e);
        }
    }

    private static Object[] arguments(String name, int run, Random random) {
        int who = number(random, 0, 7);
        int gear = random.nextInt(3) > 0 ? who : number(random, 0, 7);
        int style = number(random, 0, 1);
        int open = number(random, 2, 6);
        int spot = random.nextBoolean() ? 20 * (random.nextInt(21) - 10) : number(random, -200, 200);
        int gap = random.nextBoolean() ? 1 + random.nextInt(3) : number(random, 1, 9);
        boolean is = random.nextInt(4) == 0;
        switch (name) {
            case "jumper": return new Object[] {weight(random), number(random, 0, 3)};
            case "rig": return new Object[] {area(run, random), number(random, 0, 60)};
            case "lend": return new Object[] {gear, who};
            // In some runs the same hands pack all, so that they tire.
            case "pack": return new Object[] {gear, run % 3 == 0 ? 0 : who};
            case "renew": case "wear": return new Object[] {gear};
            case "pass": return new Object[] {run % 2 == 0 ? number(random, 1, 90) : number(random, 1, 3)};
            case "wind": return wind(run, random);
            case "board": return new Object[] {who, style, open};
            case "fly": return new Object[] {spot, gap};
            case "hold": return new Object[] {is};
            case "ofJumper": return new Object[] {who, number(random, 0, 8)};
            case "landed": return new Object[] {who, is};
            case "ofRig": return new Object[] {gear, number(random, 0, 4)};
            case "ofWind": return new Object[] {number(random, 0, 9), is};
            case "many": return new Object[] {number(random, 0, 12)};
            case "order": return new Object[] {number(random, 0, 3)};
            case "wouldLand": return new Object[] {who, style, open, spot, is};
            case "takes": return new Object[] {who, style, open};
            case "spot": return new Object[] {gap};
            case "wouldMeet": return new Object[] {gap, spot};
            case "loading": case "refuses": case "best": return new Object[] {who};
            default: return new Object[0];
        }
    }

    /** Seldom just beyond the bounds, or very far beyond them. */
    private static int number(Random random, int low, int high) {
        switch (random.nextInt(60)) {
            case 0: return low - 1;
            case 1: return high + 1;
            case 2: return random.nextInt();
            case 3: return low;
            case 4: return high;
            default: return low + random.nextInt(high - low + 1);
        }
    }

    /** Often the same ones, for LOADINGS that are alike. */
    private static int weight(Random random) {
        return random.nextBoolean() ? 80 : number(random, 50, 130);
    }

    private static int area(int run, Random random) {
        return random.nextBoolean() ? (run % 2 == 0 ? 200 : 100) : number(random, 80, 300);
    }

    /** In some runs calm near the ground, so that all may BOARD, and in some without WX or WY. */
    private static Object[] wind(int run, Random random) {
        int layer = number(random, 0, 9);
        int most = layer == 0 ? 4 : 20;
        int wx = run % 5 == 1 ? 0 : number(random, -most, most);
        int wy = run % 5 == 2 ? 0 : number(random, -most, most);
        return new Object[] {layer, wx, wy};
    }
}
