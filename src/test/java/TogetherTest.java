/**
 * Where one sentence of the document meets another one: what a call does besides, and what it leaves alone. Where
 * nothing else is said a jumper weighs 80 and has an area of 200: LOADING 4, three TICKS a LAYER, FORWARD 8.
 */
final class TogetherTest {
    public static void main(String[] args) {
        noWindGroundsWhoIsAboard();
        whoIsRefusedAboardStaysAsBoarded();
        renewingWhoIsAboard();
        packingWhileAboard();
        lendingMovesTheRigAlone();
        leavingDrawsNothing();
        spotWhileHeld();
        sameLayerBehindTheTick();
        troubleIsAJumpLikeAnother();
        troubleMayBeOff();
        whoJumpedIsInPracticeAgain();
        digestCutsY();
        Checks.finish();
    }

    /**
     * Promise 11 names two states in which one does not FLY: no wind is among them, though "refuses" tells 4 then.
     * Flat to 4 from 200: 96 nearer till the LAYER 0; there (124, 20) to (116, 20), (136, 40) to (128, 40), (148, 60)
     * to (140, 60).
     */
    private static void noWindGroundsWhoIsAboard() {
        for (int licence = 1; licence <= 3; licence++) {
            ChuteLoft loft = Edges.aboard(6, 6, licence);
            Checks.same("ground", loft.wind(0, 20, 20), 40);
            Checks.same("why not, licence " + licence, loft.refuses(0), 4);
            Checks.same("points, licence " + licence, loft.fly(200, 1), 0);
            Checks.same("x, licence " + licence, loft.landed(0, false), 140.0);
            Checks.same("y, licence " + licence, loft.landed(0, true), 60.0);
            Checks.same("jumps, licence " + licence, loft.many(7), 6);
        }
    }

    /**
     * "STYLE and a LAYER to OPEN" are those of the BOARDING, not of a later one that is refused (-6, -4): a WY of 2 in
     * the LAYER 9 is 2 for a flat one, 1 for a steep one; to 6 one would come 48 nearer.
     */
    private static void whoIsRefusedAboardStaysAsBoarded() {
        ChuteLoft loft = Edges.aboard(1, 1, 3);
        loft.wind(9, 0, 2);
        Checks.same("aboard", loft.board(0, 1, 6), -6);
        loft.wind(0, 20, 20);
        Checks.same("aboard, in that wind", loft.board(0, 1, 6), -4);
        loft.fly(200, 1);
        Checks.same("x", loft.landed(0, false), 140.0);
        Checks.same("y", loft.landed(0, true), 62.0);
    }

    /** Promise 6 names no state: the reserve of one who is aboard is renewed too. */
    private static void renewingWhoIsAboard() {
        ChuteLoft loft = Edges.onDay(Edges.one(80, 3, 200), 20);
        loft.board(0, 0, 4);
        Checks.same("renewed", loft.renew(0), 80);
        Checks.same("aboard still", loft.many(4), 1);
        Checks.same("packed still", loft.ofRig(0, 3), 1);
        Checks.same("flies", loft.fly(0, 1), 3);
        Checks.same("due", loft.ofRig(0, 1), 80);
    }

    /** Promise 5 names one state alone: who is aboard PACKS the RIG of another one, or of nobody, as well. */
    private static void packingWhileAboard() {
        ChuteLoft loft = Edges.told(2, 3);
        loft.lend(0, 0);
        loft.lend(1, 1);
        Checks.same("one's own", loft.pack(0, 0), 9);
        loft.board(0, 0, 4);
        Checks.same("another one's", loft.pack(1, 0), 8);
        Checks.same("nobody's", loft.pack(2, 0), 7);
        Checks.same("one's own still", loft.ofRig(0, 2), 9);
        Checks.same("what was packed", loft.ofJumper(0, 6), 3);
        Checks.same("the other one boards", loft.board(1, 0, 4), 2);
        Checks.throwsState(loft, "packed and aboard", () -> loft.pack(0, 1));
    }

    /** To LEND changes who has a RIG: not what was PACKED by whom, the DAY of a JUMP, or how the RIG is. */
    private static void lendingMovesTheRigAlone() {
        ChuteLoft loft = PlaneTest.ready(2, 3);
        loft.rig(150, 10);
        loft.pack(2, 0);
        loft.pass(3);
        loft.jumper(80, 3);
        loft.board(0, 0, 4);
        loft.fly(0, 1);
        loft.pack(0, 0);
        Checks.same("who had it", loft.lend(0, 1), 0);
        int[] dueOfGiver = {80, 3, -1, 3, 1, 3, 1, -1, 0};
        int[] dueOfTaker = {80, 3, 0, 0, 0, 0, 0, -1, 0};
        for (int what = 0; what <= 8; what++) {
            Checks.same("ofJumper(0, " + what + ")", loft.ofJumper(0, what), dueOfGiver[what]);
            Checks.same("ofJumper(1, " + what + ")", loft.ofJumper(1, what), dueOfTaker[what]);
        }
        int[] dueOfRig = {200, 60, 9, 1, 1};
        for (int what = 0; what <= 4; what++) {
            Checks.same("ofRig(0, " + what + ")", loft.ofRig(0, what), dueOfRig[what]);
        }
        Checks.same("wear", loft.wear(0), 0.0625);
        Checks.same("the one of before is free", loft.ofRig(1, 4), -1);
        Checks.same("packed still", loft.ofRig(1, 3), 1);
        loft.lend(1, 0);
        loft.board(1, 0, 4);
        loft.fly(0, 1);
        Checks.same("the giver's hands are tired still", loft.pack(0, 0), 8);
    }

    /** Promise 10: all leave on the ground, so that nothing opens, and nothing is DRAWN. */
    private static void leavingDrawsNothing() {
        ChuteLoft loft = PlaneTest.ready(7, 3);
        loft.board(6, 0, 4);
        loft.fly(0, 1);
        for (int i = 0; i < 6; i++) {
            loft.board(i, 0, 4);
        }
        Checks.same("how many were aboard", loft.empty(), 6);
        Checks.same("the draw", loft.many(5), 18);
        Checks.same("flights", loft.many(6), 1);
    }

    /** "While the plane is HELD (by hand), nobody BOARDS, and it does not FLY": what would be is answered as ever. */
    private static void spotWhileHeld() {
        ChuteLoft loft = Edges.aboard(2, 2, 0);
        for (int layer = 5; layer <= 9; layer++) {
            loft.wind(layer, layer == 9 ? 20 : 10, 0);
        }
        int spot = loft.spot(1);
        int would = loft.wouldMeet(1, -30);
        Checks.same("not held", spot, -20);
        loft.hold(true);
        Checks.same("held", loft.spot(1), spot);
        Checks.same("pairs while held", loft.wouldMeet(1, -30), would);
        Checks.same("would land while held", loft.wouldLand(0, 0, 4, 0, false), 0.0);
        Checks.same("takes while held", loft.takes(0, 0, 4), 25);
    }

    /**
     * "if behind some TICK both .. are then in the same LAYER": the first one (a TICK a LAYER, FORWARD 20.25) and the
     * second one (FORWARD 8) are both in the LAYER 6 behind the TICK 5 alone. From 100 they are then at 120 and 122,
     * and a TICK later, in two LAYERS, at 99.75 and 114; from -100 at -80 and -62, and a TICK later, in two LAYERS,
     * though they both began it in the same one, at -59.75 and -54.
     */
    private static void sameLayerBehindTheTick() {
        for (int side = -1; side <= 1; side += 2) {
            ChuteLoft loft = Edges.one(130, 3, 80);
            Edges.add(loft, 80, 3, 200);
            loft.wind(9, 20, 0);
            loft.board(0, 0, 6);
            loft.board(1, 1, 6);
            int due = side > 0 ? 1 : 0;
            Checks.same("would meet from " + 100 * side, loft.wouldMeet(2, 100 * side), due);
            loft.fly(100 * side, 2);
            Checks.same("met from " + 100 * side, loft.many(10), due);
        }
    }

    /** A loft whose JUMPER 0 has PACKED and flown five times on the DAY 7, and a JUMPER 1 told on the DAY 0. */
    private static ChuteLoft aboardForTrouble(int open) {
        ChuteLoft loft = Edges.told(2, 2);
        loft.lend(0, 0);
        loft.lend(1, 1);
        loft.pass(7);
        for (int i = 0; i < 5; i++) {
            loft.pack(0, 0);
            loft.board(0, 0, 4);
            loft.fly(0, 1);
        }
        Checks.same("neat", loft.pack(1, 0), 4);
        loft.board(1, 0, open);
        return loft;
    }

    /**
     * TROUBLE (a DRAW of 1, a sum of 5) takes none of what a JUMP is: POINTS of all and of one's own, JUMPS, the DAY;
     * NEAT stays till the RIG is PACKED again.
     */
    private static void troubleIsAJumpLikeAnother() {
        ChuteLoft loft = aboardForTrouble(4);
        Checks.same("points of all", loft.fly(50, 1), 3);
        Checks.same("the draw", loft.many(5), 1);
        Checks.same("where", loft.landed(1, false), 2.0);
        int[] due = {61, 3, 1, 7, 1, 3, 0, -1, 1};
        for (int what = 0; what <= 8; what++) {
            Checks.same("ofJumper(1, " + what + ")", loft.ofJumper(1, what), due[what]);
        }
        int[] dueOfRig = {201, 6, 4, 0, 1};
        for (int what = 0; what <= 4; what++) {
            Checks.same("ofRig(1, " + what + ")", loft.ofRig(1, what), dueOfRig[what]);
        }
        Checks.same("wear", loft.wear(1), 0.25);
        int[] dueOfAll = {7, 2, 2, 0, 0, 1, 6, 6, 1, 0, 0, 0, 0};
        for (int what = 0; what <= 12; what++) {
            Checks.same("many(" + what + ")", loft.many(what), dueOfAll[what]);
        }
    }

    /** "with one above 100.0 one is OFF (counted)": under a reserve too; to 2 it brings one 24 nearer. */
    private static void troubleMayBeOff() {
        for (int spot = 124; spot <= 125; spot++) {
            ChuteLoft loft = aboardForTrouble(2);
            Checks.same("points from " + spot, loft.fly(spot, 1), 0);
            Checks.same("where from " + spot, loft.landed(1, false), spot - 24.0);
            Checks.same("off from " + spot, loft.many(9), spot == 125 ? 1 : 0);
        }
    }

    /** "the DAY of the last JUMP is this one", with TROUBLE too: thirty DAYS later a LOADING above 4f is let, not 31. */
    private static void whoJumpedIsInPracticeAgain() {
        ChuteLoft loft = aboardForTrouble(4);
        loft.fly(0, 1);
        loft.lend(loft.rig(100, 60), 1);
        loft.pack(2, 1);
        loft.pass(30);
        Checks.same("30 days later", loft.refuses(1), 0);
        loft.pass(1);
        Checks.same("31 days later", loft.refuses(1), 5);
    }

    /**
     * "1024 times landed() of x and of y (each product cut to a whole number, as (long) does)": y is
     * -78.71571898460388 or the same above 0.0, a product of 80604.89..: it is cut to 80604, not rounded.
     */
    private static void digestCutsY() {
        for (int side = -1; side <= 1; side += 2) {
            ChuteLoft loft = Edges.one(84, 3, 299);
            for (int layer = 3; layer <= 9; layer++) {
                loft.wind(layer, 0, 20 * side);
            }
            loft.board(0, 0, 2);
            loft.fly(0, 1);
            Checks.same("y", loft.landed(0, true), 78.71571898460388 * side);
            Checks.same("digest", loft.digest(), digestOfOne(loft, 80604L * side));
        }
    }

    /** The digest of a loft with one JUMPER and one RIG, with that value for the product of y. */
    private static long digestOfOne(ChuteLoft loft, long productOfY) {
        long d = 58311L;
        for (int what = 0; what <= 12; what++) {
            d = d * 31 + loft.many(what);
        }
        for (int what = 0; what <= 8; what++) {
            d = d * 31 + loft.ofJumper(0, what);
        }
        d = d * 31 + (long) (1024 * loft.landed(0, false));
        d = d * 31 + productOfY;
        d = d * 31 + loft.refuses(0);
        d = d * 31 + loft.best(0);
        for (int what = 0; what <= 4; what++) {
            d = d * 31 + loft.ofRig(0, what);
        }
        d = d * 31 + (long) (64 * loft.wear(0));
        for (int layer = 0; layer <= 9; layer++) {
            d = (d * 31 + loft.ofWind(layer, false)) * 31 + loft.ofWind(layer, true);
        }
        return (d * 31 + loft.spot(3)) * 31 + loft.wouldMeet(3, 0);
    }
}
