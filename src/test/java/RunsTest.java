import java.lang.reflect.InvocationTargetException;
import java.lang.reflect.Method;
import java.util.Arrays;
import java.util.HashMap;
import java.util.Map;
import java.util.Random;
import java.util.function.IntPredicate;

/** Runs of calls on fresh objects, the same ones each time, with the answers that Model gives. */
final class RunsTest {
    private static final int RUNS = 3000;
    private static final int CALLS = 500;

    private static final String[] NAMES = {
        "jumper", "rig", "lend", "lend", "pack", "pack", "pack", "pack", "renew", "renew", "pass", "wind", "wind",
        "board", "board", "board", "board", "board", "board", "board", "board", "board", "empty", "fly", "fly", "fly",
        "hold", "gong", "ofJumper", "loading", "landed", "refuses", "ofRig", "wear", "ofWind", "many", "order",
        "wouldLand", "takes", "spot", "wouldMeet", "best", "digest"};

    /** For runs with many flights of few jumpers, so that rigs wear. */
    private static final String[] NAMES_OF_FLIGHTS = {
        "jumper", "rig", "lend", "pack", "pack", "pack", "renew", "board", "board", "board", "fly", "fly", "pass",
        "ofRig", "digest"};

    private static final Map<String, Method> FACE = methods(ChuteLoft.class);
    private static final Map<String, Method> MODEL = methods(Model.class);

    public static void main(String[] args) {
        for (int run = 0; run < RUNS; run++) {
            compare(run);
        }
        Checks.finish();
    }

    private static Map<String, Method> methods(Class<?> type) {
        Map<String, Method> methods = new HashMap<>();
        for (Method method : type.getDeclaredMethods()) {
            if (Arrays.asList(NAMES).contains(method.getName())) {
                method.setAccessible(true);
                methods.put(method.getName(), method);
            }
        }
        return methods;
    }

    private static void compare(int run) {
        Random random = new Random(run);
        ChuteLoft loft = new ChuteLoft();
        Model model = new Model();
        String[] names = isOfFlights(run) ? NAMES_OF_FLIGHTS : NAMES;
        for (int call = 0; call < CALLS; call++) {
            String name = call < 40 ? NAMES[call % 8] : names[random.nextInt(names.length)];
            Object[] given = arguments(name, run, random, model);
            Object got = answer(FACE.get(name), loft, given);
            Object due = answer(MODEL.get(name), model, given);
            if (!isSame(got, due)) {
                Checks.same("run " + run + ", call " + call + ": " + name + Arrays.toString(given), got, due);
                return;
            }
        }
        Checks.same("the digest of run " + run, loft.digest(), model.digest());
    }

    /** 0.0 and -0.0 are the same. */
    private static boolean isSame(Object got, Object due) {
        if (got instanceof Double && due instanceof Double) {
            return ((Double) got).doubleValue() == ((Double) due).doubleValue();
        }
        return got.equals(due);
    }

    private static Object answer(Method method, Object on, Object[] given) {
        try {
            return method.invoke(on, given);
        } catch (InvocationTargetException e) {
            return "throws." + e.getCause().getClass().getSimpleName();
        } catch (IllegalAccessException e) {
            throw new AssertionError(e);
        }
    }

    private static boolean isOfFlights(int run) {
        return run % 4 == 3;
    }

    private static Object[] arguments(String name, int run, Random random, Model model) {
        int last = isOfFlights(run) ? 1 : 7;
        int who = number(random, 0, last);
        int gear = random.nextInt(3) > 0 ? who : number(random, 0, last);
        int style = number(random, 0, 1);
        int open = number(random, 2, 6);
        int spot = random.nextBoolean() ? 10 * (random.nextInt(21) - 10) : number(random, -200, 200);
        int gap = random.nextInt(3) > 0 ? 1 + random.nextInt(2) : number(random, 1, 9);
        boolean is = random.nextInt(name.equals("hold") ? 6 : 2) == 0;
        switch (name) {
            case "jumper": return new Object[] {weight(random), number(random, run % 2, 3)};
            case "rig": return new Object[] {area(run, random), number(random, run % 2 * 20, 60)};
            case "lend": return new Object[] {gear, who};
            // In some runs the same hands pack all, so that they tire.
            case "pack": return new Object[] {unpacked(random, model, gear), run % 3 == 0 ? 0 : number(random, 0, 7)};
            case "renew": return new Object[] {overdue(random, model, gear)};
            case "wear": return new Object[] {gear};
            case "pass": return new Object[] {number(random, 1, run % 4 == 0 ? 90 : 3)};
            case "wind": return wind(run, random);
            case "board": return new Object[] {ready(random, model, who), style, open};
            case "fly": return new Object[] {spot, gap};
            case "hold": return new Object[] {is};
            case "ofJumper": return new Object[] {who, number(random, 0, 8)};
            case "landed": return new Object[] {who, is};
            case "ofRig": return new Object[] {gear, number(random, 0, 4)};
            case "ofWind": return new Object[] {number(random, 0, 9), is};
            case "many": return new Object[] {number(random, 0, 12)};
            case "order": return new Object[] {number(random, 0, 5)};
            case "wouldLand": return new Object[] {who, style, open, spot, is};
            case "takes": return new Object[] {who, style, open};
            case "spot": return new Object[] {gap};
            case "wouldMeet": return new Object[] {gap, spot};
            case "loading": case "refuses": case "best": return new Object[] {who};
            default: return new Object[0];
        }
    }

    /** Mostly one of those that the calls are about: by chance alone few would PACK and fly. */
    private static int mostly(IntPredicate isWanted, int many, int otherwise, Random random) {
        int first = random.nextInt(8);
        for (int i = 0; i < many && random.nextInt(20) > 0; i++) {
            int number = (first + i) % many;
            if (isWanted.test(number)) {
                return number;
            }
        }
        return otherwise;
    }

    private static int ready(Random random, Model model, int otherwise) {
        return mostly(who -> model.refuses(who) == 0, model.many(1), otherwise, random);
    }

    private static int unpacked(Random random, Model model, int otherwise) {
        IntPredicate isWanted = rig -> model.ofRig(rig, 3) == 0 && model.ofRig(rig, 4) >= 0;
        return mostly(isWanted, model.many(2), otherwise, random);
    }

    private static int overdue(Random random, Model model, int otherwise) {
        return mostly(rig -> model.ofRig(rig, 1) < model.many(0), model.many(2), otherwise, random);
    }

    /** Seldom just beyond the bounds, or very far beyond them. */
    private static int number(Random random, int low, int high) {
        switch (random.nextInt(60)) {
            case 0: return low - 1;
            case 1: return high + 1;
            case 2: return random.nextInt();
            case 3: return low;
            case 4: return high;
            default: return low + random.nextInt(high - low + 1);
        }
    }

    /** Often the same ones, for LOADINGS that are alike. */
    private static int weight(Random random) {
        return random.nextBoolean() ? 80 : number(random, 50, 130);
    }

    private static int area(int run, Random random) {
        return random.nextBoolean() ? (run % 2 == 0 ? 200 : 100) : number(random, 80, 300);
    }

    /** In most runs calm near the ground, so that all may BOARD, and in some without WX or WY. */
    private static Object[] wind(int run, Random random) {
        int layer = number(random, 0, 9);
        int most = layer == 0 && run % 7 > 0 ? 4 : 20;
        int wx = run % 5 == 1 ? 0 : number(random, -most, most);
        int wy = run % 5 == 2 ? 0 : number(random, -most, most);
        return new Object[] {layer, wx, wy};
    }
}
