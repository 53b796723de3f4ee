import java.util.function.Supplier;

/**
 * What the tests of edges share. Each call that is looked at has a loft of its own, made anew: so no test comes near
 * the 512 calls of an object, and a refused call can be compared with a loft on which it was never made.
 */
final class Edges {
    static final int LEAST = Integer.MIN_VALUE;
    static final int MOST = Integer.MAX_VALUE;

    interface Call {
        Object on(ChuteLoft loft);
    }

    interface CallOf {
        Object on(ChuteLoft loft, int value);
    }

    private Edges() {
    }

    static void argument(Supplier<ChuteLoft> maker, String what, Call call) {
        refused(maker, "IllegalArgumentException", what, call);
    }

    static void state(Supplier<ChuteLoft> maker, String what, Call call) {
        refused(maker, "IllegalStateException", what, call);
    }

    static void index(Supplier<ChuteLoft> maker, String what, Call call) {
        refused(maker, "IndexOutOfBoundsException", what, call);
    }

    /** That all from low to high are taken, and what is just beyond, and farthest beyond, is a wrong argument. */
    static void arguments(Supplier<ChuteLoft> maker, String what, int low, int high, CallOf call) {
        bounds(maker, "IllegalArgumentException", what, low, high, call);
    }

    static void indices(Supplier<ChuteLoft> maker, String what, int low, int high, CallOf call) {
        bounds(maker, "IndexOutOfBoundsException", what, low, high, call);
    }

    private static void bounds(Supplier<ChuteLoft> maker, String due, String what, int low, int high, CallOf call) {
        for (int value = low; value <= high; value++) {
            int taken = value;
            ChuteLoft loft = maker.get();
            String outcome = String.valueOf(Checks.outcome(() -> call.on(loft, taken)));
            Checks.same(what + " " + value + " is taken", outcome.startsWith("throws."), false);
        }
        for (int value : new int[] {low - 1, high + 1, LEAST, MOST}) {
            refused(maker, due, what + " " + value, loft -> call.on(loft, value));
        }
    }

    /** That the call throws just that exception, and that nothing differs behind it, now or in what comes then. */
    private static void refused(Supplier<ChuteLoft> maker, String due, String what, Call call) {
        ChuteLoft loft = maker.get();
        Checks.same(what, Checks.outcome(() -> call.on(loft)), "throws." + due);
        Checks.same("what stands behind " + what, future(loft), future(maker.get()));
    }

    /**
     * All that can be asked, then what some calls answer that bring to light what is hidden: STYLES, LAYERS to OPEN.
     */
    static String future(ChuteLoft loft) {
        StringBuilder told = new StringBuilder(Checks.stateOf(loft));
        told.append(' ').append(loft.hold(false));
        if (loft.many(4) > 0) {
            told.append(' ').append(loft.fly(-37, 2)).append(' ').append(Checks.stateOf(loft));
        }
        for (int i = 0; i < loft.many(1); i++) {
            told.append(' ').append(packAndBoard(loft, i));
        }
        told.append(' ').append(loft.gong()).append(' ').append(Checks.stateOf(loft));
        told.append(' ').append(loft.empty());
        told.append(' ').append(Checks.outcome(() -> loft.pass(1)));
        told.append(' ').append(Checks.outcome(() -> loft.jumper(77, 1)));
        told.append(' ').append(Checks.outcome(() -> loft.rig(222, 11)));
        return told.append(' ').append(loft.digest()).toString();
    }

    private static String packAndBoard(ChuteLoft loft, int jumper) {
        int rig = loft.ofJumper(jumper, 2);
        Object packed = Checks.outcome(() -> loft.pack(rig, jumper));
        return packed + "," + Checks.outcome(() -> loft.board(jumper, jumper % 2, 5));
    }

    /** Asked while it would change nothing, but for the call: that all stands as it did ahead of it. */
    static void changesNothing(Supplier<ChuteLoft> maker, String what, Call call, Object due) {
        ChuteLoft loft = maker.get();
        Checks.same(what, Checks.outcome(() -> call.on(loft)), due);
        Checks.same("what stands behind " + what, future(loft), future(maker.get()));
    }

    /**
     * A loft with so many jumpers and rigs, none lent: WEIGHTS 60, 61 .., LICENCE 3, AREAS 200, 201 .., DUE in 30
     * DAYS.
     */
    static ChuteLoft told(int jumpers, int rigs) {
        ChuteLoft loft = new ChuteLoft();
        for (int i = 0; i < jumpers; i++) {
            loft.jumper(60 + i, 3);
        }
        for (int i = 0; i < rigs; i++) {
            loft.rig(200 + i, 30);
        }
        return loft;
    }

    /** One JUMPER, whose RIG is PACKED and DUE in 60 DAYS. */
    static ChuteLoft one(int weight, int licence, int area) {
        ChuteLoft loft = new ChuteLoft();
        add(loft, weight, licence, area);
        return loft;
    }

    /** One more JUMPER, with a RIG of one's own, PACKED by oneself; answers the number of both. */
    static int add(ChuteLoft loft, int weight, int licence, int area) {
        int jumper = loft.jumper(weight, licence);
        int rig = loft.rig(area, 60);
        loft.lend(rig, jumper);
        loft.pack(rig, jumper);
        return jumper;
    }

    /** Lets DAYS go by until that one. */
    static ChuteLoft onDay(ChuteLoft loft, int day) {
        while (loft.many(0) < day) {
            loft.pass(Math.min(90, day - loft.many(0)));
        }
        return loft;
    }

    /** JUMPERS as in PlaneTest.ready, of whom the first ones are aboard, flat, to OPEN in the LAYER 4. */
    static ChuteLoft aboard(int count, int aboard, int licence) {
        ChuteLoft loft = PlaneTest.ready(count, licence);
        for (int i = 0; i < aboard; i++) {
            loft.board(i, 0, 4);
        }
        return loft;
    }

    static ChuteLoft held(ChuteLoft loft) {
        loft.hold(true);
        return loft;
    }
}
