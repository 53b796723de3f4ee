/** Promises 23 to 28: what would be, and the digest. Jumpers are loaded as in PlaneTest. */
final class WouldBeTest {
    public static void main(String[] args) {
        whereOneWouldLand();
        wouldLandIsRefused();
        howLongItTakes();
        takesIsRefused();
        theBestSpot();
        theBestSpotOfSeveral();
        theSmallestSpotOfTwoAsNear();
        theFarthestSpots();
        howManyWouldMeet();
        wouldMeetIsRefused();
        theBestRig();
        theBestRigWithoutPractice();
        theDigest();
        nothingIsChanged();
        Checks.finish();
    }

    private static void whereOneWouldLand() {
        ChuteLoft loft = new ChuteLoft();
        loft.jumper(80, 0);
        loft.rig(200, 0);
        loft.lend(0, 0);
        loft.pass(1);
        loft.hold(true);
        // Not packed, overdue, held, opening lower than that licence may: none of it matters.
        Checks.same("steep to 2 from 200", loft.wouldLand(0, 1, 2, 200, false), 200.0 - 36.0);
        Checks.same("flat to 6 from -200", loft.wouldLand(0, 0, 6, -200, false), -200.0 + 84.0);
        loft.wind(9, 20, -20);
        // Alone one leaves at the SPOT, whatever the wind up there: (110, -20), and 60 nearer in x.
        Checks.same("x through a wind", loft.wouldLand(0, 0, 4, 90, false), 50.0);
        Checks.same("y through a wind", loft.wouldLand(0, 0, 4, 90, true), -20.0);
        Checks.same("just 0.0", loft.wouldLand(0, 0, 6, 0, false), 0.0);
    }

    private static void wouldLandIsRefused() {
        ChuteLoft loft = PlaneTest.ready(1, 3);
        loft.jumper(80, 3);
        Checks.throwsIndex(loft, "jumper 2", () -> loft.wouldLand(2, 0, 4, 0, false));
        Checks.throwsIndex(loft, "jumper -1, style 2", () -> loft.wouldLand(-1, 2, 4, 0, false));
        Checks.throwsArgument(loft, "style 2", () -> loft.wouldLand(0, 2, 4, 0, false));
        Checks.throwsArgument(loft, "style -1", () -> loft.wouldLand(0, -1, 4, 0, false));
        Checks.throwsArgument(loft, "open 1", () -> loft.wouldLand(0, 0, 1, 0, false));
        Checks.throwsArgument(loft, "open 7", () -> loft.wouldLand(0, 0, 7, 0, false));
        Checks.throwsArgument(loft, "spot 201", () -> loft.wouldLand(0, 0, 4, 201, false));
        Checks.throwsArgument(loft, "spot -201", () -> loft.wouldLand(0, 0, 4, -201, true));
        Checks.throwsState(loft, "without a rig", () -> loft.wouldLand(1, 0, 4, 0, false));
        Checks.throwsArgument(loft, "spot 201 without a rig", () -> loft.wouldLand(1, 0, 4, 201, false));
    }

    private static void howLongItTakes() {
        ChuteLoft loft = PlaneTest.ready(1, 0);
        Checks.same("flat to 4", loft.takes(0, 0, 4), 2 * 5 + 3 * 5);
        Checks.same("steep to 4", loft.takes(0, 1, 4), 5 + 3 * 5);
        Checks.same("flat to 2", loft.takes(0, 0, 2), 2 * 7 + 3 * 3);
        Checks.same("steep to 6", loft.takes(0, 1, 6), 3 + 3 * 7);
        int[] weights = {50, 80, 81, 130};
        int[] areas = {300, 100, 100, 80};
        // LOADINGS of 1.66, 8, 8.1 and 16.25: 8f by them is 4.8, 1, 0.98 and 0.49.
        int[] ticksOfALayer = {5, 2, 1, 1};
        for (int i = 0; i < 4; i++) {
            int jumper = loft.jumper(weights[i], 3);
            loft.lend(loft.rig(areas[i], 0), jumper);
            Checks.same("loading " + loft.loading(jumper), loft.takes(jumper, 0, 5), 2 * 4 + ticksOfALayer[i] * 6);
        }
    }

    private static void takesIsRefused() {
        ChuteLoft loft = PlaneTest.ready(1, 3);
        loft.jumper(80, 3);
        Checks.throwsIndex(loft, "jumper 2", () -> loft.takes(2, 0, 4));
        Checks.throwsIndex(loft, "jumper -1, style 2", () -> loft.takes(-1, 2, 4));
        Checks.throwsArgument(loft, "style 2", () -> loft.takes(0, 2, 4));
        Checks.throwsArgument(loft, "style -1", () -> loft.takes(0, -1, 4));
        Checks.throwsArgument(loft, "open 1", () -> loft.takes(0, 0, 1));
        Checks.throwsArgument(loft, "open 7", () -> loft.takes(0, 0, 7));
        Checks.throwsState(loft, "without a rig", () -> loft.takes(1, 0, 4));
        Checks.throwsArgument(loft, "open 7 without a rig", () -> loft.takes(1, 0, 7));
    }

    /**
     * Flat to 4: 100 more as one falls, then 12 more in each of 6 TICKS, if x is not below 0, and 72 less in the last
     * 9: -100 is the nearest SPOT that brings one to 0.0; with -80 it is 20.0.
     */
    private static void theBestSpot() {
        ChuteLoft loft = PlaneTest.ready(2, 3);
        for (int layer = 3; layer <= 9; layer++) {
            loft.wind(layer, 20, 0);
        }
        Checks.same("with nobody aboard", loft.spot(1), 0);
        loft.board(0, 0, 4);
        Checks.same("x from -100", loft.wouldLand(0, 0, 4, -100, false), 0.0);
        Checks.same("x from -80", loft.wouldLand(0, 0, 4, -80, false), 20.0);
        Checks.same("with one aboard", loft.spot(1), -100);
        loft.board(1, 0, 4);
        // The second one leaves 10 or 90 farther.
        Checks.same("with two aboard", loft.spot(1), -120);
        Checks.same("with two aboard, gap 9", loft.spot(9), -200);
        Checks.throwsArgument(loft, "gap 0", () -> loft.spot(0));
        Checks.throwsArgument(loft, "gap 10", () -> loft.spot(10));
        for (int layer = 0; layer <= 9; layer++) {
            loft.wind(layer, -20, 0);
        }
        Checks.same("no points from anywhere", loft.spot(1), 0);
    }

    private static void theBestSpotOfSeveral() {
        ChuteLoft loft = PlaneTest.ready(2, 3);
        loft.board(0, 0, 4);
        loft.board(1, 0, 4);
        // In calm air one gets 3 points from -125 to 125; the second one leaves 30 farther for each TICK of the GAP.
        Checks.same("the nearest one to 0", loft.spot(1), 0);
        Checks.same("the nearest one of -120 and -100", loft.spot(7), -100);
        Checks.same("the only one with points of both", loft.spot(8), -120);
        Checks.same("no spot with points of both: the nearest one of the first", loft.spot(9), 0);
        loft.hold(true);
        Checks.same("while held", loft.spot(1), 0);
    }

    /**
     * Steep to 3. From 40: (16, 0) below the LAYER 3, (37, -15) below 2, (-15, 0) below 1, (0, 0) on the ground. From
     * -20, 0 and 20: (0, 0), (21, -15), (-23, 8), (-7, 0). From -40: (-16, 0), (13, -10), (-24, 5), (0, 5).
     */
    private static void theSmallestSpotOfTwoAsNear() {
        ChuteLoft loft = PlaneTest.ready(1, 3);
        loft.wind(2, 15, -5);
        loft.wind(1, -20, 5);
        loft.board(0, 1, 3);
        double[] xDue = {0.0, -7.0, -7.0, -7.0, 0.0};
        double[] yDue = {5.0, 0.0, 0.0, 0.0, 0.0};
        for (int i = 0; i < 5; i++) {
            int spot = 20 * i - 40;
            Checks.same("x from " + spot, loft.wouldLand(0, 1, 3, spot, false), xDue[i]);
            Checks.same("y from " + spot, loft.wouldLand(0, 1, 3, spot, true), yDue[i]);
        }
        Checks.same("the smaller one of -40 and 40", loft.spot(1), -40);
    }

    /**
     * Flat to 2 with winds of 20 down to the LAYER 2: 140 as one falls. Reckoned back from 5.0 on the ground, one must
     * open at -57 or less.
     */
    private static void theFarthestSpots() {
        for (int side = -1; side <= 1; side += 2) {
            ChuteLoft loft = PlaneTest.ready(1, 3);
            for (int layer = 2; layer <= 9; layer++) {
                loft.wind(layer, side * 20, 0);
            }
            loft.wind(1, side * 14, 0);
            loft.board(0, 0, 2);
            Checks.same("points only from there", loft.spot(1), side * -200);
        }
    }

    private static void howManyWouldMeet() {
        ChuteLoft loft = PlaneTest.ready(4, 3);
        Checks.same("with nobody aboard", loft.wouldMeet(1, 0), 0);
        loft.board(0, 0, 4);
        Checks.same("with one aboard", loft.wouldMeet(1, 0), 0);
        for (int i = 1; i < 4; i++) {
            loft.board(i, 0, 4);
        }
        int would = loft.wouldMeet(1, -40);
        Checks.same("all but the first and the last", would, 5);
        Checks.same("far apart", loft.wouldMeet(9, 0), 0);
        loft.hold(true);
        Checks.same("while held", loft.wouldMeet(1, -40), would);
        loft.hold(false);
        loft.fly(-40, 1);
        Checks.same("as they did", loft.many(10), would);
    }

    private static void wouldMeetIsRefused() {
        ChuteLoft loft = PlaneTest.ready(1, 3);
        Checks.throwsArgument(loft, "gap 0", () -> loft.wouldMeet(0, 0));
        Checks.throwsArgument(loft, "gap 10", () -> loft.wouldMeet(10, 0));
        Checks.throwsArgument(loft, "spot 201", () -> loft.wouldMeet(1, 201));
        Checks.throwsArgument(loft, "spot -201", () -> loft.wouldMeet(1, -201));
        Checks.same("gap 9, spot 200", loft.wouldMeet(9, 200), 0);
        Checks.same("gap 1, spot -200", loft.wouldMeet(1, -200), 0);
    }

    private static void theBestRig() {
        ChuteLoft loft = new ChuteLoft();
        loft.jumper(60, 1);
        Checks.same("without rigs", loft.best(0), -1);
        loft.rig(99, 0);
        Checks.same("above 6", loft.best(0), -1);
        loft.rig(200, 0);
        Checks.same("the only one that is let", loft.best(0), 1);
        loft.rig(100, 0);
        loft.rig(100, 0);
        Checks.same("at 6, the smaller number", loft.best(0), 2);
        loft.lend(3, 0);
        Checks.same("not one's own for that", loft.best(0), 2);
        loft.jumper(60, 3);
        loft.lend(2, 1);
        Checks.same("one's own", loft.best(0), 3);
        Checks.same("of another licence", loft.best(1), 0);
        loft.lend(0, 0);
        Checks.same("free again", loft.best(0), 3);
        loft.lend(3, 1);
        Checks.same("free again, and smaller", loft.best(0), 2);
        Checks.throwsIndex(loft, "best of 2", () -> loft.best(2));
        Checks.throwsIndex(loft, "best of -1", () -> loft.best(-1));
    }

    private static void theBestRigWithoutPractice() {
        ChuteLoft loft = new ChuteLoft();
        loft.jumper(80, 3);
        loft.rig(80, 0);
        loft.rig(199, 0);
        loft.rig(200, 0);
        loft.pass(30);
        Checks.same("30 days", loft.best(0), 0);
        loft.pass(1);
        Checks.same("31 days", loft.best(0), 2);
    }

    private static void theDigest() {
        ChuteLoft loft = new ChuteLoft();
        Checks.same("of a new loft", loft.digest(), digestOf(loft));
        loft.jumper(70, 0);
        loft.jumper(71, 3);
        loft.jumper(90, 2);
        loft.rig(190, 7);
        loft.rig(133, 60);
        loft.rig(101, 8);
        for (int i = 0; i < 3; i++) {
            loft.lend(i, i);
            loft.pack(i, 0);
        }
        loft.wind(0, 3, -4);
        loft.wind(5, -7, 6);
        loft.wind(9, 1, -19);
        loft.gong();
        for (int i = 0; i < 3; i++) {
            loft.board(i, i % 2, 4);
        }
        Checks.same("with three aboard", loft.digest(), digestOf(loft));
        loft.fly(-77, 2);
        Checks.same("behind a flight", loft.digest(), digestOf(loft));
    }

    /** What the document says, from the answers of the other calls. */
    private static long digestOf(ChuteLoft loft) {
        long[] d = {58311L};
        for (int what = 0; what <= 12; what++) {
            add(d, loft.many(what));
        }
        for (int i = 0; i < loft.many(1); i++) {
            for (int what = 0; what <= 8; what++) {
                add(d, loft.ofJumper(i, what));
            }
            add(d, (long) (1024 * loft.landed(i, false)));
            add(d, (long) (1024 * loft.landed(i, true)));
            add(d, loft.refuses(i));
            add(d, loft.best(i));
        }
        for (int i = 0; i < loft.many(2); i++) {
            for (int what = 0; what <= 4; what++) {
                add(d, loft.ofRig(i, what));
            }
            add(d, (long) (64 * loft.wear(i)));
        }
        for (int layer = 0; layer <= 9; layer++) {
            add(d, loft.ofWind(layer, false));
            add(d, loft.ofWind(layer, true));
        }
        add(d, loft.spot(3));
        add(d, loft.wouldMeet(3, 0));
        return d[0];
    }

    private static void add(long[] d, long value) {
        d[0] = d[0] * 31 + value;
    }

    private static void nothingIsChanged() {
        ChuteLoft loft = PlaneTest.ready(5, 2);
        loft.wind(7, 9, -3);
        for (int i = 0; i < 4; i++) {
            loft.board(i, i % 2, 2 + i);
        }
        String before = Checks.stateOf(loft);
        loft.wouldLand(4, 1, 2, -200, true);
        loft.takes(0, 0, 6);
        loft.spot(4);
        loft.wouldMeet(9, 200);
        loft.best(2);
        loft.digest();
        Checks.same("behind what would be", Checks.stateOf(loft), before);
        Checks.same("the draw", loft.many(5), 3);
    }
}
