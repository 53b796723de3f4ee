/**
 * The edges of what a JUMP is (section 3, and promise 11), sentence by sentence; each quoted above its test. Where
 * nothing else is said a jumper weighs 80 and has an area of 200: LOADING 4, three TICKS a LAYER, FORWARD 8 (4 with a
 * LICENCE of 0).
 */
final class EdgesOfJumpTest {
    /** The DRAWS of all FLIGHTS: they come back to the first one behind 32. */
    private static final int[] DRAWS = {18, 29, 20, 7, 6, 1, 8, 11, 26, 5, 28, 15, 14, 9, 16, 19, 2, 13, 4, 23, 22, 17,
        24, 27, 10, 21, 12, 31, 30, 25, 0, 3};

    public static void main(String[] args) {
        whereTheKthLeaves();
        whoeverFliesAloneIsTheFirst();
        ticksInEachLayer();
        halfAWindIsNoWholeNumber();

        drawsComeBack();
        drawsOfEachWhoLeaves();
        drawsAreOfFlightsAlone();
        aDrawOfZeroWithoutASum();
        drawsJustBelowAndJustAt();
        wearTimesTwoIsCut();
        everyDrawIsBelow();

        onThroughTheLayerToOpen();
        reservesAreAlikeForAll();
        dueTheDayAhead();
        noTroubleNoDueDay();

        nearerButToZeroAtMost();
        yNearerButToZeroAtMost();
        lessThanOneFromZero();
        atLeastAsFar();
        steeredBehindTheWind();
        forwardIsADouble();
        forwardUnderAReserve();

        pointsByFarOnEitherSide();
        farIsTheGreaterOne();
        offIsCountedForEach();

        whatAFlightLeaves();
        whoWasNotAboard();
        wearInPlaceOfWear();

        tenApartInX();
        tenApartInYOrBoth();
        tenApartTheOtherWay();
        fallingOnesMeetNobody();
        fallingOnThroughMeetsNobody();
        justOpenedMeets();
        justOpenedReserveMeets();
        reservesMeet();
        twoReservesMeet();
        eachPairOnceAFlight();
        sixInFifteenPairs();
        Checks.finish();
    }

    /** Adds a JUMPER as in PlaneTest, with a RIG that the JUMPER 0 has PACKED. */
    private static int addPackedByZero(ChuteLoft loft, int weight, int licence, int area) {
        int jumper = loft.jumper(weight, licence);
        loft.lend(loft.rig(area, 60), jumper);
        loft.pack(loft.ofJumper(jumper, 2), 0);
        return jumper;
    }

    /** A loft whose JUMPER 0 has PACKED and flown so many times (5 at most) on this DAY, without TROUBLE. */
    private static ChuteLoft behindDraws(int draws, int day) {
        ChuteLoft loft = Edges.onDay(new ChuteLoft(), day);
        loft.jumper(80, 3);
        loft.lend(loft.rig(200, 60), 0);
        for (int i = 0; i < draws; i++) {
            loft.pack(0, 0);
            loft.board(0, 0, 4);
            loft.fly(0, 1);
        }
        return loft;
    }

    // ---- leaving and falling

    /** "the k-th one (from 0 on) leaves .. at x = SPOT + k * GAP * (30.0 less WX of the LAYER 9), and y = 0.0". */
    private static void whereTheKthLeaves() {
        for (int wx = -20; wx <= 20; wx += 10) {
            for (int gap = 1; gap <= 9; gap += 4) {
                for (int spot = -200; spot <= 200; spot += 200) {
                    ChuteLoft loft = Edges.aboard(6, 6, 3);
                    loft.wind(9, wx, 0);
                    loft.fly(spot, gap);
                    for (int k = 0; k < 6; k++) {
                        // Flat: WX of the LAYER 9 once in all; then fifteen TICKS of 8 nearer.
                        int opened = spot + k * gap * (30 - wx) + wx;
                        double due = opened > 120 ? opened - 120.0 : opened < -120 ? opened + 120.0 : 0.0;
                        String what = "the " + k + "th from " + spot + ", gap " + gap + ", wx " + wx;
                        Checks.same("x of " + what, loft.landed(k, false), due);
                        Checks.same("y of " + what, loft.landed(k, true), 0.0);
                    }
                }
            }
        }
    }

    /** "from 0 on": alone, the GAP and the wind up there do not bring one elsewhere than the SPOT. */
    private static void whoeverFliesAloneIsTheFirst() {
        for (int gap = 1; gap <= 9; gap++) {
            ChuteLoft loft = Edges.aboard(6, 0, 3);
            loft.wind(9, -20, 0);
            loft.board(5, 0, 4);
            loft.fly(200, gap);
            Checks.same("alone, gap " + gap, loft.landed(5, false), 200.0 - 20.0 - 120.0);
        }
    }

    /**
     * "After 2 TICKS (flat) or 1 TICK (steep) in a LAYER one is in the one below; as one comes to the LAYER to OPEN,
     * the canopy opens at once"; "at first in the LAYER 9"; "below the LAYER 0 one has LANDED". A WY of 5 in one LAYER
     * alone tells how many TICKS one spent there, falling (half of it each) or under the canopy; x is farther all the
     * time, so that y is not STEERED.
     */
    private static void ticksInEachLayer() {
        for (int licence = 0; licence <= 3; licence += 3) {
            for (int open = licence == 0 ? 4 : 2; open <= 6; open++) {
                for (int layer = 0; layer <= 9; layer++) {
                    for (int style = 0; style <= 1; style++) {
                        ChuteLoft loft = PlaneTest.ready(1, licence);
                        loft.wind(layer, 0, 5);
                        loft.board(0, style, open);
                        double y = layer > open ? (style == 0 ? 5.0 : 2.5) : 15.0;
                        double x = 200.0 - (licence == 0 ? 12 : 24) * (open + 1);
                        String what = "style " + style + ", open " + open + ", wind in " + layer;
                        Checks.same("x would be, " + what, loft.wouldLand(0, style, open, 200, false), x);
                        Checks.same("y would be, " + what, loft.wouldLand(0, style, open, 200, true), y);
                        loft.fly(200, 1);
                        Checks.same("x, " + what, loft.landed(0, false), x);
                        Checks.same("y, " + what, loft.landed(0, true), y);
                    }
                }
            }
        }
    }

    /** "x is WX * 0.5 more, y is WY * 0.5 more": of odd winds of either sign. */
    private static void halfAWindIsNoWholeNumber() {
        for (int wind : new int[] {-19, -1, 1, 19}) {
            ChuteLoft loft = PlaneTest.ready(1, 3);
            loft.wind(9, wind, -wind);
            loft.board(0, 1, 4);
            loft.fly(200, 1);
            Checks.same("x by a wind of " + wind, loft.landed(0, false), 200.0 + wind * 0.5 - 120.0);
            Checks.same("y by a wind of " + -wind, loft.landed(0, true), -wind * 0.5);
        }
    }

    // ---- the DRAW and TROUBLE

    /** "DRAW becomes (5 * DRAW + 3) modulo 32 (3 at first ..)": 32 FLIGHTS of one, and it is 3 again. */
    private static void drawsComeBack() {
        ChuteLoft loft = Edges.told(4, 1);
        loft.lend(0, 0);
        Checks.same("the draw at first", loft.many(5), 3);
        for (int i = 0; i < 66; i++) {
            loft.pack(0, i % 4);
            loft.renew(0);
            loft.board(0, i % 2, 2);
            loft.fly(0, 1);
            Checks.same("the draw of flight " + i, loft.many(5), DRAWS[i % 32]);
        }
    }

    /** "one for all, in the ORDER of who leaves": as many DRAWS as are aboard, 1 to 6. */
    private static void drawsOfEachWhoLeaves() {
        ChuteLoft loft = PlaneTest.ready(6, 3);
        int draws = 0;
        for (int aboard = 1; aboard <= 6; aboard++) {
            for (int i = 0; i < aboard; i++) {
                loft.board(i, 0, 4);
            }
            loft.fly(0, 9);
            draws += aboard;
            Checks.same("the draw behind a flight of " + aboard, loft.many(5), DRAWS[draws - 1]);
            loft.pass(1);
            for (int i = 0; i < aboard; i++) {
                loft.pack(i, i);
            }
        }
        Checks.same("no trouble", loft.many(8), 0);
    }

    /** "As it opens": what only would be, those who leave the plane on the ground, and refused FLIGHTS DRAW nothing. */
    private static void drawsAreOfFlightsAlone() {
        ChuteLoft loft = Edges.aboard(6, 6, 3);
        Checks.outcome(() -> loft.fly(201, 1));
        Checks.outcome(() -> loft.fly(0, 10));
        loft.wouldLand(0, 0, 2, 0, false);
        loft.takes(0, 0, 2);
        loft.spot(1);
        loft.wouldMeet(1, 0);
        loft.hold(true);
        Checks.outcome(() -> loft.fly(0, 1));
        loft.empty();
        loft.gong();
        loft.digest();
        Checks.same("the draw", loft.many(5), 3);
    }

    /** "if DRAW is below the sum": a DRAW of 0, the 31st one, is not below 0, but below 1. */
    private static void aDrawOfZeroWithoutASum() {
        for (int sum = 0; sum <= 1; sum++) {
            ChuteLoft loft = PlaneTest.ready(6, 3);
            for (int flight = 0; flight < 5; flight++) {
                for (int i = 0; i < 6; i++) {
                    loft.board(i, 0, 4);
                }
                loft.fly(0, 9);
                loft.pass(1);
                for (int i = 0; i < 6; i++) {
                    loft.pack(i, i);
                }
            }
            flyOneMore(loft, sum);
            Checks.same("the 31st draw", loft.many(5), 0);
            Checks.same("trouble with a sum of " + sum, loft.many(8), sum);
        }
    }

    /** "if DRAW is below the sum of (9 less NEAT) and ..": the fourth, the fifth and the sixth DRAW are 7, 6 and 1. */
    private static void drawsJustBelowAndJustAt() {
        int[][] rows = {{3, 6, 0}, {3, 7, 0}, {4, 5, 0}, {4, 6, 0}, {4, 7, 1}, {5, 0, 0}, {5, 1, 0}, {5, 2, 1},
            {5, 7, 1}};
        for (int[] row : rows) {
            ChuteLoft loft = Edges.aboard(row[0], row[0], 3);
            loft.fly(0, 9);
            flyOneMore(loft, row[1]);
            Checks.same("the draw", loft.many(5), DRAWS[row[0]]);
            Checks.same("trouble with a draw of " + DRAWS[row[0]] + ", sum " + row[1], loft.many(8), row[2]);
        }
    }

    /** One who has never jumped, and has PACKED so many RIGS ahead of one's own, flies alone. */
    private static void flyOneMore(ChuteLoft loft, int packedAhead) {
        int jumper = loft.jumper(80, 3);
        int rig = loft.rig(200, 60);
        loft.lend(rig, jumper);
        for (int packed = 0; packed < packedAhead; packed++) {
            boolean isFree = packed < rig && loft.ofRig(packed, 3) == 0;
            loft.pack(isFree ? packed : loft.rig(200, 60), jumper);
        }
        Checks.same("neat of one's own", loft.pack(rig, jumper), 9 - packedAhead);
        loft.board(jumper, 0, 4);
        loft.fly(0, 1);
    }

    /**
     * "and (WEAR times 2f, cut to a whole number)", reckoned in sixteenths: of a RIG that fresh hands PACK, on a new
     * DAY each time, and of one that the same hands PACK on one DAY; each for nearly 512 calls.
     */
    private static void wearTimesTwoIsCut() {
        wears(83, true);
        wears(100, false);
    }

    private static void wears(int flights, boolean isFresh) {
        ChuteLoft loft = Edges.told(1, 1);
        loft.lend(0, 0);
        int sixteenths = 0;
        int troubles = 0;
        for (int flight = 0; flight < flights; flight++) {
            int neat = isFresh ? 9 : Math.max(0, 9 - flight);
            if (isFresh) {
                loft.pass(1);
            }
            loft.pack(0, 0);
            loft.renew(0);
            loft.board(0, 0, 4);
            loft.fly(0, 1);
            boolean isTrouble = DRAWS[flight % 32] < 9 - neat + sixteenths / 8;
            sixteenths += isTrouble ? 4 : 1;
            troubles += isTrouble ? 1 : 0;
            Checks.same("troubles till flight " + flight + ", fresh: " + isFresh, loft.many(8), troubles);
        }
        Checks.same("wear, fresh: " + isFresh, loft.wear(0), sixteenths / 16.0);
    }

    /** A sum of 32 and more: the DRAW of 31, of the 92nd FLIGHT, is TROUBLE too. */
    private static void everyDrawIsBelow() {
        ChuteLoft loft = Edges.told(1, 1);
        loft.lend(0, 0);
        for (int flight = 0; flight < 92; flight++) {
            loft.pack(0, 0);
            loft.renew(0);
            loft.board(0, 0, 4);
            loft.fly(0, 1);
            if (flight == 59) {
                Checks.same("troubles till the draw of 31 with a sum of 27", loft.many(8), 30);
            }
        }
        Checks.same("the draw", loft.many(5), 31);
        Checks.same("wear", loft.wear(0), 17.0);
        Checks.same("troubles of all", loft.many(8), 60);
    }

    // ---- TROUBLE

    /** The sixth DRAW of that DAY, 1, with a NEAT of 4: TROUBLE. Calm but for a WY of 5 in that LAYER. */
    private static ChuteLoft troubled(int weight, int licence, int area, int style, int open, int windy) {
        ChuteLoft loft = behindDraws(5, 0);
        int jumper = addPackedByZero(loft, weight, licence, area);
        loft.board(jumper, style, open);
        loft.wind(windy, 0, 5);
        loft.fly(200, 1);
        Checks.same("trouble", loft.ofJumper(jumper, 8), 1);
        return loft;
    }

    /**
     * "Then one falls on through that LAYER, and the reserve opens in the one below it likewise (without a DRAW)": as
     * in ticksInEachLayer, from the highest LAYER to OPEN to the lowest one.
     */
    private static void onThroughTheLayerToOpen() {
        for (int open = 2; open <= 6; open++) {
            for (int layer = 0; layer <= 9; layer++) {
                for (int style = 0; style <= 1; style++) {
                    ChuteLoft loft = troubled(80, 3, 200, style, open, layer);
                    String what = "style " + style + ", open " + open + ", wind in " + layer;
                    Checks.same("x, " + what, loft.landed(1, false), 200.0 - 12.0 * open);
                    Checks.same("y, " + what, loft.landed(1, true), layer >= open ? (style == 0 ? 5.0 : 2.5) : 20.0);
                    Checks.same("the draw, " + what, loft.many(5), 1);
                }
            }
        }
    }

    /** "3.0 under a reserve, with any LICENCE"; "(4 in all under a reserve)", with any LOADING. */
    private static void reservesAreAlikeForAll() {
        int[][] jumpers = {{80, 0, 200}, {50, 0, 300}, {50, 1, 300}, {90, 2, 100}, {130, 3, 80}, {50, 3, 300}};
        for (int[] jumper : jumpers) {
            for (int open = 4; open <= 6; open += 2) {
                ChuteLoft loft = troubled(jumper[0], jumper[1], jumper[2], 0, open, 0);
                String what = jumper[0] + " on " + jumper[2] + ", licence " + jumper[1] + ", open " + open;
                Checks.same("x of " + what, loft.landed(1, false), 200.0 - 12.0 * open);
                Checks.same("y of " + what, loft.landed(1, true), 20.0);
            }
        }
    }

    /**
     * "the DUE DAY of it becomes the DAY ahead of this one": -1 on DAY 0, 499 on DAY 500; then it is not to be flown.
     */
    private static void dueTheDayAhead() {
        for (int day : new int[] {0, 1, 500}) {
            ChuteLoft loft = behindDraws(5, day == 500 ? 440 : 0);
            Edges.onDay(loft, day);
            loft.renew(0);
            int jumper = loft.jumper(80, 3);
            loft.lend(loft.rig(200, 60), jumper);
            for (int i = 0; i < 2; i++) {
                loft.pack(i == 0 ? loft.rig(100, 0) : 0, 0);
            }
            loft.pack(1, 0);
            loft.board(jumper, 0, 4);
            loft.fly(0, 1);
            Checks.same("trouble on day " + day, loft.ofJumper(jumper, 8), 1);
            Checks.same("due behind it", loft.ofRig(1, 1), day - 1);
            Checks.same("another one's", loft.ofRig(0, 1), day + 60);
            loft.pack(1, jumper);
            Checks.same("why not on that day", loft.refuses(jumper), 3);
            Checks.same("renewed", loft.renew(1), day + 60);
            Checks.same("why not then", loft.refuses(jumper), 0);
        }
    }

    /** Without TROUBLE the DUE DAY stays, though it be this one. */
    private static void noTroubleNoDueDay() {
        for (int days = 0; days <= 60; days += 60) {
            ChuteLoft loft = Edges.told(1, 0);
            loft.lend(loft.rig(200, days), 0);
            loft.pack(0, 0);
            loft.board(0, 0, 4);
            loft.fly(0, 1);
            Checks.same("due in " + days, loft.ofRig(0, 1), days);
        }
    }

    // ---- under a canopy

    /** "x comes nearer to 0.0 by FORWARD, but to 0.0 (just that) at most": fifteen times 8, from either side. */
    private static void nearerButToZeroAtMost() {
        ChuteLoft loft = PlaneTest.ready(1, 3);
        for (int spot = -200; spot <= 200; spot++) {
            double due = spot > 120 ? spot - 120.0 : spot < -120 ? spot + 120.0 : 0.0;
            if (spot % 20 == 0 || Math.abs(Math.abs(spot) - 120) <= 8 || Math.abs(spot) <= 8) {
                Checks.same("x from " + spot, loft.wouldLand(0, 0, 4, spot, false), due);
                Checks.same("y from " + spot, loft.wouldLand(0, 0, 4, spot, true), 0.0);
            }
        }
    }

    /** "otherwise y likewise": fifteen times 4 with a LICENCE of 0; WY of the LAYERS 9 to 5 once each as one falls. */
    private static void yNearerButToZeroAtMost() {
        ChuteLoft loft = PlaneTest.ready(1, 0);
        for (int y : new int[] {-100, -64, -61, -60, -59, -5, -4, -3, 0, 3, 4, 5, 59, 60, 61, 64, 100}) {
            for (int layer = 5; layer <= 9; layer++) {
                loft.wind(layer, 0, layer == 9 ? y - 4 * (y / 5) : y / 5);
            }
            double due = y > 60 ? y - 60.0 : y < -60 ? y + 60.0 : 0.0;
            Checks.same("y from " + y, loft.wouldLand(0, 0, 4, 0, true), due);
            Checks.same("x from " + y, loft.wouldLand(0, 0, 4, 0, false), 0.0);
        }
    }

    /**
     * "at least as far", "nearer to 0.0": of 0.5 too, whichever of both it is, on either side; steep, so that half
     * counts.
     */
    private static void lessThanOneFromZero() {
        int[][] rows = {{1, 0}, {-1, 0}, {0, 1}, {0, -1}, {1, 1}, {-1, 1}, {1, -1}, {-1, -1}};
        for (int[] row : rows) {
            ChuteLoft loft = PlaneTest.ready(1, 3);
            loft.wind(9, row[0], row[1]);
            Checks.same("x of " + row[0] + ", " + row[1], loft.wouldLand(0, 1, 4, 0, false), 0.0);
            Checks.same("y of " + row[0] + ", " + row[1], loft.wouldLand(0, 1, 4, 0, true), 0.0);
        }
    }

    /**
     * "with x at least as far from 0.0 as y is, x comes nearer .. otherwise y": a TICK a LAYER, 20.25 nearer in it, so
     * that one comes to 0.0 from all winds of the LAYER 0.
     */
    private static void atLeastAsFar() {
        for (int wx = -20; wx <= 20; wx++) {
            ChuteLoft loft = Edges.one(130, 3, 80);
            for (int wy : new int[] {wx, -wx, wx + 1, wx - 1, -wx + 1, -wx - 1}) {
                if (wy >= -20 && wy <= 20) {
                    loft.wind(0, wx, wy);
                    boolean isX = wx * wx >= wy * wy;
                    Checks.same("x of " + wx + ", " + wy, loft.wouldLand(0, 0, 4, 0, false), isX ? 0.0 : wx);
                    Checks.same("y of " + wx + ", " + wy, loft.wouldLand(0, 0, 4, 0, true), isX ? wy : 0.0);
                }
            }
        }
    }

    /**
     * "first x is WX more, y is WY more; then one STEERS": in the LAYER 0, from 0.0, a WX of 9 leaves 1, then 2, then
     * 3; STEERED first it would be 9 behind the last TICK.
     */
    private static void steeredBehindTheWind() {
        ChuteLoft loft = PlaneTest.ready(1, 3);
        loft.wind(0, 9, 0);
        Checks.same("x of 9", loft.wouldLand(0, 0, 4, 0, false), 3.0);
        loft.wind(0, 8, 0);
        Checks.same("x of 8", loft.wouldLand(0, 0, 4, 0, false), 0.0);
        loft.wind(0, 0, -9);
        Checks.same("y of -9", loft.wouldLand(0, 0, 4, 0, true), -3.0);
        loft.wind(0, 0, -8);
        Checks.same("y of -8", loft.wouldLand(0, 0, 4, 0, true), 0.0);
    }

    /** "FORWARD is 4.0 and LOADING together; half of that with a LICENCE of 0": 70 on 300, four TICKS a LAYER. */
    private static void forwardIsADouble() {
        for (int licence = 0; licence <= 3; licence++) {
            ChuteLoft loft = Edges.one(70, licence, 300);
            double due = licence == 0 ? 162.00000047683716 : 124.00000095367432;
            Checks.same("x, licence " + licence, loft.wouldLand(0, 1, 2, 200, false), due);
            Checks.same("x from the left, licence " + licence, loft.wouldLand(0, 1, 2, -200, false), -due);
        }
    }

    /** "but to 0.0 (just that) at most", by the 3.0 of a reserve: open 2, eight TICKS of it in the LAYERS 1 and 0. */
    private static void forwardUnderAReserve() {
        for (int spot : new int[] {-25, -24, -23, -3, -2, 0, 2, 3, 23, 24, 25}) {
            ChuteLoft loft = behindDraws(5, 0);
            addPackedByZero(loft, 80, 3, 200);
            loft.board(1, 1, 2);
            loft.fly(spot, 9);
            double due = spot == 25 ? 1.0 : spot == -25 ? -1.0 : 0.0;
            Checks.same("trouble from " + spot, loft.ofJumper(1, 8), 1);
            Checks.same("x from " + spot, loft.landed(1, false), due);
        }
    }

    // ---- FAR, POINTS and OFF

    /**
     * "POINTS: 3 with a FAR of 5.0 or less, 1 with one of 20.0 or less, otherwise 0; with one above 100.0 one is
     * OFF"; "without their signs". Steep to 4 with a LICENCE of 0: half of the winds of the LAYERS 9 to 5, then 4
     * nearer and a wind of 4 in fifteen TICKS; with a wind of 12 in four LAYERS 96 farther.
     */
    private static void pointsByFarOnEitherSide() {
        int[] twiceFar = {0, 1, 9, 10, 11, 39, 40, 41, 191, 192, 199, 200, 201, 202};
        int[] points = {3, 3, 3, 3, 1, 1, 1, 0, 0, 0, 0, 0, 0, 0};
        for (int i = 0; i < twiceFar.length; i++) {
            for (int side = 0; side < 4; side++) {
                boolean isY = side >= 2;
                int sign = side % 2 == 0 ? 1 : -1;
                ChuteLoft loft = PlaneTest.ready(1, 0);
                loft.board(0, 1, 4);
                int rest = twiceFar[i] >= 191 ? twiceFar[i] - 192 : twiceFar[i];
                blow(loft, 0, isY, sign * 4);
                for (int layer = 1; layer <= 4; layer++) {
                    blow(loft, layer, isY, sign * (twiceFar[i] >= 191 ? 12 : 4));
                }
                for (int layer = 5; layer <= 9; layer++) {
                    int part = Math.min(20, Math.max(-20, rest));
                    blow(loft, layer, isY, sign * part);
                    rest -= part;
                }
                String what = " of far " + twiceFar[i] / 2.0 + (isY ? " in y" : " in x") + ", sign " + sign;
                Checks.same("points" + what, loft.fly(0, 1), points[i]);
                Checks.same("points ever" + what, loft.ofJumper(0, 5), points[i]);
                Checks.same("where" + what, loft.landed(0, isY), sign * twiceFar[i] / 2.0);
                Checks.same("the other one" + what, loft.landed(0, !isY), 0.0);
                Checks.same("off" + what, loft.many(9), twiceFar[i] > 200 ? 1 : 0);
            }
        }
    }

    private static void blow(ChuteLoft loft, int layer, boolean isY, int wind) {
        loft.wind(layer, isY ? 0 : wind, isY ? wind : 0);
    }

    /**
     * "FAR (double) is the greater one of x and y, without their signs": in the LAYER 0 alone, (13, 9) to (5, 9),
     * (18, 18) to (10, 18), (23, 27) to (23, 19); (9, 13) to (9, 5), (18, 18) to (10, 18), (19, 31) to (19, 23).
     */
    private static void farIsTheGreaterOne() {
        for (int sign = -1; sign <= 1; sign += 2) {
            int[][] rows = {{13, 9, 23, 19}, {9, 13, 19, 23}};
            for (int[] row : rows) {
                for (int other = -1; other <= 1; other += 2) {
                    ChuteLoft loft = Edges.aboard(1, 1, 3);
                    loft.wind(0, sign * row[0], other * row[1]);
                    Checks.same("points of " + sign * row[2] + ", " + other * row[3], loft.fly(0, 1), 0);
                    Checks.same("x", loft.landed(0, false), (double) sign * row[2]);
                    Checks.same("y", loft.landed(0, true), (double) other * row[3]);
                }
            }
        }
    }

    /** "one is OFF (counted)": each JUMP for itself, FLIGHT by FLIGHT; the sixth of them from 100 leaves at 250. */
    private static void offIsCountedForEach() {
        ChuteLoft loft = Edges.aboard(6, 6, 0);
        loft.fly(50, 1);
        // 50, 80 .. 200, and 60 nearer each: the last one lands at 140, the one ahead of it at 110.
        Checks.same("off of six", loft.many(9), 2);
        loft.pass(1);
        for (int i = 0; i < 6; i++) {
            loft.pack(i, i);
            loft.board(i, 0, 4);
        }
        loft.fly(200, 9);
        Checks.same("off of twelve", loft.many(9), 8);
    }

    // ---- behind a FLIGHT

    /** "nobody is aboard; for each who was: the RIG is not PACKED any more .. the DAY of the last JUMP is this one". */
    private static void whatAFlightLeaves() {
        for (int aboard = 1; aboard <= 6; aboard += 5) {
            for (int day : new int[] {0, 500}) {
                ChuteLoft loft = PlaneTest.ready(8, 3);
                Edges.onDay(loft, day);
                for (int i = 0; i < 8; i++) {
                    loft.renew(i);
                }
                for (int i = 0; i < aboard; i++) {
                    loft.board(7 - i, 0, 4);
                }
                loft.fly(0, 1);
                Checks.same("aboard", loft.many(4), 0);
                Checks.same("flights", loft.many(6), 1);
                Checks.same("jumps", loft.many(7), aboard);
                for (int i = 0; i < 8; i++) {
                    boolean was = i > 7 - aboard;
                    Checks.same("packed " + i, loft.ofRig(i, 3), was ? 0 : 1);
                    Checks.same("wear of " + i, loft.wear(i), was ? 0.0625 : 0.0);
                    Checks.same("last jump of " + i, loft.ofJumper(i, 3), was ? day : 0);
                    Checks.same("jumps of " + i, loft.ofJumper(i, 4), was ? 1 : 0);
                    Checks.same("place of " + i, loft.ofJumper(i, 7), -1);
                }
            }
        }
    }

    /** "for each who was": nothing of the others, not even of one who had BOARDED and left. */
    private static void whoWasNotAboard() {
        ChuteLoft loft = Edges.aboard(3, 2, 3);
        loft.empty();
        loft.board(2, 0, 4);
        loft.fly(150, 1);
        for (int i = 0; i < 2; i++) {
            Checks.same("packed " + i, loft.ofRig(i, 3), 1);
            Checks.same("wear of " + i, loft.wear(i), 0.0);
            Checks.same("jumps of " + i, loft.ofJumper(i, 4), 0);
            Checks.same("x of " + i, loft.landed(i, false), 0.0);
        }
        Checks.same("x of 2", loft.landed(2, false), 30.0);
    }

    /** "WEAR is 0.0625f more (with TROUBLE 0.25f in place of that)". */
    private static void wearInPlaceOfWear() {
        ChuteLoft loft = behindDraws(4, 0);
        Checks.same("wear of four flights", loft.wear(0), 0.25);
        addPackedByZero(loft, 80, 3, 200);
        addPackedByZero(loft, 80, 3, 200);
        loft.board(1, 0, 4);
        loft.board(2, 0, 4);
        // DRAWS of 6 and 1, sums of 4 and 5.
        loft.fly(0, 9);
        Checks.same("wear without trouble", loft.wear(1), 0.0625);
        Checks.same("wear with trouble", loft.wear(2), 0.25);
        Checks.same("due without trouble", loft.ofRig(1, 1), 60);
        Checks.same("due with trouble", loft.ofRig(2, 1), -1);
        Checks.same("troubles of 1", loft.ofJumper(1, 8), 0);
        Checks.same("troubles of 2", loft.ofJumper(2, 8), 1);
        Checks.same("x without trouble", loft.landed(1, false), 0.0);
        Checks.same("x with trouble", loft.landed(2, false), 270.0 - 48.0);
    }

    // ---- MEETING

    private static void meets(ChuteLoft loft, String what, int gap, int spot, int due) {
        Checks.same("would meet, " + what, loft.wouldMeet(gap, spot), due);
        loft.fly(spot, gap);
        Checks.same("met, " + what, loft.many(10), due);
    }

    /**
     * A flat one, and five TICKS later a steep one, who OPEN in the LAYER 4 behind the same TICK; from 150 on both come
     * nearer in x alone, and neither comes to 0.0. They stay 50 apart less half of all WX, and half of all WY.
     */
    private static ChuteLoft sideBySide(int sumOfWx, int sumOfWy) {
        ChuteLoft loft = PlaneTest.ready(2, 3);
        loft.board(0, 0, 4);
        loft.board(1, 1, 4);
        int restOfWx = sumOfWx - 20;
        int restOfWy = sumOfWy;
        for (int layer = 9; layer >= 5; layer--) {
            int wx = layer == 9 ? 20 : Math.min(20, restOfWx);
            int wy = Math.max(-20, Math.min(20, restOfWy));
            loft.wind(layer, wx, wy);
            restOfWx -= layer == 9 ? 0 : wx;
            restOfWy -= wy;
        }
        return loft;
    }

    /** "neither x nor y are 10.0 or more apart": 10.0 in x is, 9.5 is not. */
    private static void tenApartInX() {
        int[] sums = {78, 79, 80, 81, 82, 100};
        int[] due = {0, 0, 0, 1, 1, 1};
        for (int i = 0; i < sums.length; i++) {
            String what = 50.0 - sums[i] / 2.0 + " apart in x";
            ChuteLoft loft = sideBySide(sums[i], 0);
            meets(loft, what, 5, 150, due[i]);
            double apart = loft.landed(1, false) - loft.landed(0, false);
            Checks.same(what, apart, 50.0 - sums[i] / 2.0);
        }
    }

    /** "nor y": 10.0 in y is, 9.5 is not, in either direction; and in both at once. */
    private static void tenApartInYOrBoth() {
        int[][] rows = {{100, 19, 1}, {100, 20, 0}, {100, 21, 0}, {100, -19, 1}, {100, -20, 0}, {100, -21, 0},
            {81, 19, 1}, {81, -19, 1}, {81, 20, 0}, {80, 19, 0}, {80, 20, 0}};
        for (int[] row : rows) {
            String what = "sums " + row[0] + ", " + row[1];
            ChuteLoft loft = sideBySide(row[0], row[1]);
            meets(loft, what, 5, 150, row[2]);
            double apart = loft.landed(0, true) - loft.landed(1, true);
            Checks.same("y apart, " + what, apart, row[1] / 2.0);
        }
    }

    /**
     * Both come nearer in y alone (80 behind the fall, WY as much as FORWARD then); the second one is 10 less WX of the
     * LAYER 4 to the right of the first one while both are in it, and 10 below it.
     */
    private static void tenApartTheOtherWay() {
        int[] winds = {-1, 0, 1, 10, 19, 20};
        int[] due = {0, 0, 1, 1, 1, 0};
        for (int i = 0; i < winds.length; i++) {
            ChuteLoft loft = Edges.aboard(2, 2, 0);
            loft.wind(9, 20, 0);
            for (int layer = 0; layer <= 8; layer++) {
                loft.wind(layer, layer == 4 ? winds[i] : 0, layer > 4 ? 20 : 4);
            }
            meets(loft, "a wx of " + winds[i], 1, -20, due[i]);
            Checks.same("y of both", loft.landed(0, true) + loft.landed(1, true), 160.0);
            Checks.same("x apart", loft.landed(1, false) - loft.landed(0, false), 10.0);
        }
    }

    /**
     * "both are under a canopy or a reserve": behind the TICK 5 both are in the LAYER 6, 60 from the SPOT; the second
     * one falls on from there to the LAYER 2, and meets nobody.
     */
    private static void fallingOnesMeetNobody() {
        for (int open = 2; open <= 6; open += 4) {
            ChuteLoft loft = PlaneTest.ready(2, 3);
            for (int layer = 7; layer <= 9; layer++) {
                loft.wind(layer, 20, 0);
            }
            loft.board(0, 0, 6);
            loft.board(1, 1, open);
            meets(loft, "the second one to open in " + open, 3, -60, open == 6 ? 1 : 0);
        }
    }

    /**
     * With TROUBLE one "falls on through that LAYER": the second one (TROUBLE in the LAYER 5) is beside the first one
     * there, and no more as the reserve opens in the LAYER 4.
     */
    private static void fallingOnThroughMeetsNobody() {
        ChuteLoft loft = behindDraws(4, 0);
        Edges.add(loft, 80, 3, 200);
        addPackedByZero(loft, 80, 3, 200);
        loft.wind(9, 20, 0);
        loft.wind(6, 17, 0);
        loft.wind(5, -20, 0);
        loft.board(1, 0, 6);
        loft.board(2, 0, 5);
        Checks.same("would meet without trouble", loft.wouldMeet(1, 150), 1);
        loft.fly(150, 1);
        Checks.same("trouble of the second one", loft.ofJumper(2, 8), 1);
        Checks.same("trouble of the first one", loft.ofJumper(1, 8), 0);
        Checks.same("met", loft.many(10), 0);
    }

    /** "(also one that just opened)": a TICK a LAYER, so that both are in the same one behind one TICK alone. */
    private static void justOpenedMeets() {
        for (int gap = 2; gap <= 4; gap++) {
            ChuteLoft loft = Edges.one(130, 3, 80);
            Edges.add(loft, 80, 3, 200);
            for (int layer = 7; layer <= 9; layer++) {
                loft.wind(layer, 20, 0);
            }
            loft.board(0, 0, 6);
            loft.board(1, 1, 6);
            Checks.same("just opened, gap " + gap, loft.wouldMeet(gap, -60), gap == 4 ? 0 : 1);
        }
    }

    /**
     * "a reserve (also one that just opened)": the first one, a TICK a LAYER, is in the LAYER 4 behind the TICK 7
     * alone, at 0.0; the second one has TROUBLE in the LAYER 5, and comes to 0.0 in the LAYER 4 behind that TICK (GAP
     * 3).
     */
    private static void justOpenedReserveMeets() {
        for (int gap = 3; gap <= 4; gap++) {
            ChuteLoft loft = behindDraws(4, 0);
            Edges.add(loft, 130, 3, 80);
            addPackedByZero(loft, 80, 3, 200);
            for (int layer = 7; layer <= 9; layer++) {
                loft.wind(layer, 20, 0);
            }
            loft.board(1, 0, 6);
            loft.board(2, 1, 5);
            loft.fly(-60, gap);
            Checks.same("trouble of the second one", loft.ofJumper(2, 8), 1);
            Checks.same("met, gap " + gap, loft.many(10), gap == 3 ? 1 : 0);
        }
    }

    /**
     * "under a canopy or a reserve": the first one, a TICK a LAYER, would be below the second one all the time; with
     * TROUBLE in the LAYER 5 it is under the reserve in the LAYER 4 as the second one OPENS there, 7.0 apart.
     */
    private static void reservesMeet() {
        ChuteLoft loft = behindDraws(5, 0);
        addPackedByZero(loft, 130, 3, 80);
        Edges.add(loft, 80, 3, 200);
        loft.wind(9, 20, 0);
        loft.board(1, 0, 5);
        loft.board(2, 0, 4);
        Checks.same("would meet without trouble", loft.wouldMeet(1, -25), 0);
        loft.fly(-25, 1);
        Checks.same("trouble of the first one", loft.ofJumper(1, 8), 1);
        Checks.same("trouble of the second one", loft.ofJumper(2, 8), 0);
        Checks.same("met under a reserve", loft.many(10), 1);
    }

    /** Both under a reserve: DRAWS of 6 and 1, sums of 7 and 8. */
    private static void twoReservesMeet() {
        ChuteLoft loft = behindDraws(4, 0);
        for (int i = 0; i < 3; i++) {
            loft.pack(loft.rig(200, 60), 0);
        }
        for (int jumper = 1; jumper <= 2; jumper++) {
            addPackedByZero(loft, 80, 3, 200);
            loft.board(jumper, 0, 5);
        }
        loft.wind(9, 20, 0);
        loft.fly(-30, 1);
        Checks.same("troubles of both", loft.many(8), 2);
        Checks.same("met under two reserves", loft.many(10), 1);
    }

    /** "each pair counts once a FLIGHT": side by side for fifteen TICKS, and again with the next FLIGHT. */
    private static void eachPairOnceAFlight() {
        ChuteLoft loft = sideBySide(100, 0);
        loft.fly(150, 5);
        Checks.same("a flight", loft.many(10), 1);
        loft.pack(0, 0);
        loft.pack(1, 1);
        loft.board(0, 0, 4);
        loft.board(1, 1, 4);
        Checks.same("would meet again", loft.wouldMeet(5, 150), 1);
        loft.fly(150, 5);
        Checks.same("another flight", loft.many(10), 2);
        loft.pack(0, 0);
        loft.board(0, 0, 4);
        loft.fly(150, 5);
        Checks.same("a flight alone", loft.many(10), 2);
    }

    /**
     * Six aboard: fifteen pairs at most, and none. Five TICKS a LAYER: the five flat ones are four TICKS apart at most,
     * and the steep one OPENS as the first one does.
     */
    private static void sixInFifteenPairs() {
        ChuteLoft loft = new ChuteLoft();
        for (int i = 0; i < 6; i++) {
            Edges.add(loft, 50, 3, 300);
            loft.board(i, i < 5 ? 0 : 1, 4);
        }
        loft.wind(9, 20, 0);
        Checks.same("far apart in time", loft.wouldMeet(9, -20), 0);
        meets(loft, "six side by side", 1, -20, 15);
    }
}
