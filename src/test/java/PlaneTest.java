/**
 * Promises 9 to 13: the plane. Where nothing else is said a jumper weighs 80 and has an area of 200: LOADING 4,
 * three TICKS a LAYER, FORWARD 8 (4 with a LICENCE of 0).
 */
final class PlaneTest {
    public static void main(String[] args) {
        boardingCounts();
        boardingIsRefusedByThrowing();
        reasonsNotToBoard();
        groundWindLimitsByLicence();
        loadingLimitsByLicence();
        practiceLimitsLoading();
        emptying();
        pointsByFar();
        offTheField();
        opensAndSteersThroughWinds();
        leavesByGapAndTopWind();
        whatAFlightChanges();
        flyingIsRefused();
        troublesComeByDraw();
        drawIsNotBelowItsSum();
        wearBringsTrouble();
        drawsGoByOrder();
        troubleFallsToTheReserve();
        pairsMeet();
        pairsTenApartInXDoNotMeet();
        pairsTenApartInYDoNotMeet();
        whoJustOpenedMeets();
        whoLandedMeetsNobody();
        holding();
        ringingTheGong();
        Checks.finish();
    }

    /** So many jumpers of that licence, each with a packed rig of the same number; each packs its own. */
    static ChuteLoft ready(int count, int licence) {
        ChuteLoft loft = new ChuteLoft();
        for (int i = 0; i < count; i++) {
            loft.jumper(80, licence);
            loft.rig(200, 60);
            loft.lend(i, i);
            loft.pack(i, i);
        }
        return loft;
    }

    private static void boardingCounts() {
        ChuteLoft loft = ready(8, 3);
        for (int i = 0; i < 6; i++) {
            Checks.same("boarding of " + i, loft.board(i, i % 2, 2 + i % 5), i + 1);
        }
        Checks.same("aboard", loft.many(4), 6);
        Checks.throwsState(loft, "a seventh one", () -> loft.board(6, 0, 4));
        Checks.throwsState(loft, "one of six again", () -> loft.board(0, 0, 4));
        Checks.throwsArgument(loft, "a seventh one with a wrong style", () -> loft.board(6, 2, 4));
        Checks.throwsIndex(loft, "a seventh one who is nobody", () -> loft.board(8, 2, 4));
    }

    private static void boardingIsRefusedByThrowing() {
        ChuteLoft loft = ready(2, 3);
        loft.jumper(80, 0);
        loft.rig(200, 60);
        loft.lend(2, 2);
        loft.pack(2, 2);
        loft.jumper(80, 0);
        Checks.throwsIndex(loft, "nobody boards", () -> loft.board(4, 0, 4));
        Checks.throwsIndex(loft, "-1 boards", () -> loft.board(-1, 0, 4));
        Checks.throwsIndex(loft, "nobody boards in a wrong style", () -> loft.board(4, 2, 4));
        Checks.throwsArgument(loft, "style 2", () -> loft.board(0, 2, 4));
        Checks.throwsArgument(loft, "style -1", () -> loft.board(0, -1, 4));
        Checks.throwsArgument(loft, "open 1", () -> loft.board(0, 0, 1));
        Checks.throwsArgument(loft, "open 7", () -> loft.board(0, 0, 7));
        Checks.throwsArgument(loft, "open 3 of a licence of 0", () -> loft.board(2, 0, 3));
        Checks.throwsArgument(loft, "open 7 of a licence of 0", () -> loft.board(2, 0, 7));
        Checks.throwsArgument(loft, "a wrong style without a rig", () -> loft.board(3, 2, 4));
        loft.hold(true);
        Checks.throwsState(loft, "board while held", () -> loft.board(0, 0, 4));
        Checks.throwsState(loft, "board while held, without a rig", () -> loft.board(3, 0, 4));
        Checks.throwsArgument(loft, "board while held, in a wrong style", () -> loft.board(0, 2, 4));
        loft.hold(false);
        Checks.same("open 2", loft.board(0, 0, 2), 1);
        Checks.same("open 6", loft.board(1, 1, 6), 2);
        Checks.same("open 4 of a licence of 0", loft.board(2, 1, 4), 3);
    }

    private static void reasonsNotToBoard() {
        ChuteLoft loft = new ChuteLoft();
        loft.jumper(81, 0);
        loft.rig(200, 2);
        loft.wind(0, 9, 0);
        Checks.same("without a rig", loft.board(0, 0, 4), -1);
        loft.lend(0, 0);
        loft.pass(3);
        Checks.same("not packed, ahead of all behind it", loft.board(0, 0, 4), -2);
        loft.pack(0, 0);
        Checks.same("reserve was due", loft.board(0, 0, 4), -3);
        loft.renew(0);
        Checks.same("too much wind", loft.board(0, 0, 4), -4);
        loft.wind(0, 0, -8);
        Checks.same("loaded too much", loft.board(0, 0, 4), -5);
        Checks.same("nobody is aboard", loft.many(4), 0);
        loft.rig(203, 0);
        loft.lend(1, 0);
        loft.pack(1, 0);
        Checks.same("due on this day", loft.board(0, 0, 4), 1);
        Checks.same("aboard", loft.board(0, 0, 4), -6);
        Checks.same("refuses aboard", loft.refuses(0), 6);
        loft.wind(0, 9, 0);
        Checks.same("the first that holds, aboard", loft.board(0, 0, 4), -4);
        Checks.same("still aboard", loft.many(4), 1);
        Checks.same("nobody was counted as refused", loft.many(12), 0);
    }

    private static void groundWindLimitsByLicence() {
        int[] limits = {8, 14, 20, 30};
        for (int licence = 0; licence <= 3; licence++) {
            ChuteLoft loft = ready(1, licence);
            int wx = limits[licence] / 2;
            loft.wind(0, -wx, limits[licence] - wx + 1);
            Checks.same("above the wind of licence " + licence, loft.board(0, 0, 4), -4);
            loft.wind(0, -wx, limits[licence] - wx);
            Checks.same("at the wind of licence " + licence, loft.board(0, 0, 4), 1);
        }
    }

    private static void loadingLimitsByLicence() {
        int[] weights = {80, 120, 90, 130};
        int[] areas = {200, 200, 100, 80};
        for (int licence = 0; licence <= 3; licence++) {
            ChuteLoft loft = new ChuteLoft();
            for (int more = 0; more < 2 && weights[licence] + more <= 130; more++) {
                loft.jumper(weights[licence] + more, licence);
                loft.rig(areas[licence], 60);
                loft.lend(more, more);
                loft.pack(more, more);
                Checks.same("licence " + licence + ", " + more + " more", loft.board(more, 0, 4), more == 0 ? 1 : -5);
            }
        }
    }

    private static void practiceLimitsLoading() {
        ChuteLoft loft = ready(2, 3);
        loft.rig(199, 60);
        loft.lend(2, 1);
        loft.pack(2, 1);
        loft.pass(30);
        Checks.same("30 days", loft.refuses(1), 0);
        loft.pass(1);
        Checks.same("31 days, above 4", loft.refuses(1), 5);
        Checks.same("31 days, at 4", loft.refuses(0), 0);
        loft.lend(0, 1);
        loft.board(1, 0, 4);
        loft.fly(0, 1);
        Checks.same("the day of that jump", loft.ofJumper(1, 3), 31);
        loft.lend(2, 1);
        loft.pass(29);
        Checks.same("29 days behind it", loft.refuses(1), 0);
    }

    private static void emptying() {
        ChuteLoft loft = ready(3, 3);
        Checks.same("an empty plane", loft.empty(), 0);
        for (int i = 0; i < 3; i++) {
            loft.board(i, 0, 4);
        }
        loft.hold(true);
        Checks.same("a held plane", loft.empty(), 3);
        Checks.same("nobody is aboard", loft.many(4), 0);
        Checks.same("no place", loft.ofJumper(1, 7), -1);
        Checks.same("packed still", loft.ofRig(1, 3), 1);
        Checks.same("no jump", loft.many(7), 0);
        Checks.same("may board again", loft.refuses(1), 0);
        loft.hold(false);
        Checks.same("boards again", loft.board(1, 0, 4), 1);
    }

    /** Flat to 4: 15 TICKS under the canopy, 8 nearer in each: 120 in all. */
    private static void pointsByFar() {
        int[] spots = {0, 120, 124, 125, 126, 139, 140, 141, 200, -125, -126, -140, -141};
        int[] due = {3, 3, 3, 3, 1, 1, 1, 0, 0, 3, 1, 1, 0};
        for (int i = 0; i < spots.length; i++) {
            ChuteLoft loft = ready(1, 3);
            loft.board(0, 0, 4);
            Checks.same("points from " + spots[i], loft.fly(spots[i], 1), due[i]);
            Checks.same("points of 0 from " + spots[i], loft.ofJumper(0, 5), due[i]);
            double beyond = spots[i] > 120 ? spots[i] - 120.0 : spots[i] < -120 ? spots[i] + 120.0 : 0.0;
            Checks.same("x from " + spots[i], loft.landed(0, false), beyond);
            Checks.same("y from " + spots[i], loft.landed(0, true), 0.0);
        }
    }

    /** With a LICENCE of 0 it is 4 nearer in each TICK: 60 in all. */
    private static void offTheField() {
        int[] spots = {160, 161, -160, -161};
        for (int spot : spots) {
            ChuteLoft loft = ready(1, 0);
            loft.board(0, 1, 4);
            Checks.same("points from " + spot, loft.fly(spot, 1), 0);
            Checks.same("off from " + spot, loft.many(9), spot == 161 || spot == -161 ? 1 : 0);
            Checks.same("x from " + spot, loft.landed(0, false), spot > 0 ? spot - 60.0 : spot + 60.0);
        }
    }

    /**
     * Steep to 6: LAYER 9 gives x 5, 8 gives y -2, 7 gives x 1.5: (6.5, -2). LAYER 6: x is 12.5 and 4.5, 10.5 and
     * 2.5, 8.5 and 0.5. LAYER 5 brings y, then x to 0. LAYER 0: (10, 9) to (2, 9), (12, 18) to (12, 10), (22, 19) to
     * (14, 19).
     */
    private static void opensAndSteersThroughWinds() {
        ChuteLoft loft = ready(1, 3);
        loft.wind(9, 10, 0);
        loft.wind(8, 0, -4);
        loft.wind(7, 3, 0);
        loft.wind(6, 6, 0);
        loft.board(0, 1, 6);
        loft.wind(0, 10, 9);
        Checks.same("points", loft.fly(0, 1), 1);
        Checks.same("x", loft.landed(0, false), 14.0);
        Checks.same("y", loft.landed(0, true), 19.0);
        // As far in x as in y: (10, 10) to (2, 10), (12, 20) to (12, 12), (22, 22) to (14, 22).
        loft.wind(0, 10, 10);
        loft.pack(0, 0);
        loft.board(0, 1, 6);
        Checks.same("points of as far in both", loft.fly(0, 1), 0);
        Checks.same("x of as far in both", loft.landed(0, false), 14.0);
        Checks.same("y of as far in both", loft.landed(0, true), 22.0);
    }

    /** LAYER 9 gives 20 as one falls flat, and the next one leaves 4 * (30 - 10) = 80 later; 120 are steered. */
    private static void leavesByGapAndTopWind() {
        ChuteLoft loft = ready(3, 3);
        loft.wind(9, 10, 0);
        for (int i = 0; i < 3; i++) {
            loft.board(i, 0, 4);
        }
        Checks.same("points", loft.fly(20, 4), 3 + 3 + 0);
        Checks.same("x of the first", loft.landed(0, false), 0.0);
        Checks.same("x of the second", loft.landed(1, false), 0.0);
        Checks.same("x of the third", loft.landed(2, false), 70.0);
    }

    private static void whatAFlightChanges() {
        ChuteLoft loft = ready(3, 3);
        loft.pass(5);
        loft.board(0, 0, 4);
        loft.board(2, 0, 4);
        Checks.same("points of all", loft.fly(100, 1), 4);
        int[] due = {5, 3, 3, 0, 0, 29, 1, 2, 0, 0, 0, 0, 0};
        for (int what = 0; what <= 12; what++) {
            Checks.same("many(" + what + ") behind a flight", loft.many(what), due[what]);
        }
        int[] dueOfTwo = {80, 3, 2, 5, 1, 1, 0, -1, 0};
        for (int what = 0; what <= 8; what++) {
            Checks.same("ofJumper(2, " + what + ") behind a flight", loft.ofJumper(2, what), dueOfTwo[what]);
        }
        Checks.same("where 2 landed", loft.landed(2, false), 100.0 + 30.0 - 120.0);
        Checks.same("wear of 2", loft.wear(2), 0.0625);
        Checks.same("2 is not packed", loft.ofRig(2, 3), 0);
        Checks.same("2 is as neat", loft.ofRig(2, 2), 9);
        Checks.same("2 is due", loft.ofRig(2, 1), 60);
        Checks.same("2 is still lent", loft.ofRig(2, 4), 2);
        Checks.same("wear on the ground", loft.wear(1), 0.0);
        Checks.same("packed on the ground", loft.ofRig(1, 3), 1);
        Checks.same("jumps on the ground", loft.ofJumper(1, 4), 0);
        Checks.same("last jump on the ground", loft.ofJumper(1, 3), 0);
    }

    private static void flyingIsRefused() {
        ChuteLoft loft = ready(1, 3);
        Checks.throwsState(loft, "fly with nobody", () -> loft.fly(0, 1));
        Checks.throwsArgument(loft, "fly with nobody from afar", () -> loft.fly(201, 1));
        loft.board(0, 0, 4);
        Checks.throwsArgument(loft, "spot 201", () -> loft.fly(201, 1));
        Checks.throwsArgument(loft, "spot -201", () -> loft.fly(-201, 1));
        Checks.throwsArgument(loft, "gap 0", () -> loft.fly(0, 0));
        Checks.throwsArgument(loft, "gap 10", () -> loft.fly(0, 10));
        loft.hold(true);
        Checks.throwsState(loft, "fly while held", () -> loft.fly(0, 1));
        Checks.throwsArgument(loft, "fly while held with gap 0", () -> loft.fly(0, 0));
        loft.hold(false);
        Checks.same("spot -200, gap 9", loft.fly(-200, 9), 0);
        loft.pack(0, 0);
        loft.board(0, 0, 4);
        Checks.same("spot 200, gap 1", loft.fly(200, 1), 0);
    }

    /**
     * One who packs ten times on a day: NEAT 9, 8 .. 0; the DRAWS are 18, 29, 20, 7, 6, 1, 8, 11, 26, 5. The sixth one
     * is below 5, the tenth one below 9 and 1 of WEAR.
     */
    private static void troublesComeByDraw() {
        ChuteLoft loft = new ChuteLoft();
        loft.jumper(80, 3);
        loft.rig(200, 60);
        loft.lend(0, 0);
        int[] draws = {18, 29, 20, 7, 6, 1, 8, 11, 26, 5};
        int troubles = 0;
        double wear = 0.0;
        for (int i = 0; i < 10; i++) {
            Checks.same("neat of flight " + i, loft.pack(0, 0), 9 - i);
            loft.board(0, 0, 4);
            loft.fly(0, 1);
            boolean isTrouble = i == 5 || i == 9;
            troubles += isTrouble ? 1 : 0;
            wear += isTrouble ? 0.25 : 0.0625;
            Checks.same("draw of flight " + i, loft.many(5), draws[i]);
            Checks.same("troubles till flight " + i, loft.many(8), troubles);
            Checks.same("troubles of 0 till flight " + i, loft.ofJumper(0, 8), troubles);
            Checks.same("wear behind flight " + i, loft.wear(0), wear);
            Checks.same("due behind flight " + i, loft.ofRig(0, 1), isTrouble ? -1 : 60);
            loft.renew(0);
        }
    }

    /** Packed by the same hands: rig i is 9 - i NEAT. The fourth DRAW is 7, the fifth one 6. */
    private static void drawIsNotBelowItsSum() {
        int[][] rigs = {{0, 1, 2, 7}, {0, 1, 2, 3, 7}, {0, 1, 2, 3, 6}};
        boolean[] due = {false, true, false};
        for (int run = 0; run < rigs.length; run++) {
            ChuteLoft loft = packedByOne();
            for (int place = 0; place < rigs[run].length; place++) {
                loft.lend(rigs[run][place], place);
                loft.board(place, 0, 4);
            }
            loft.fly(0, 9);
            int last = rigs[run].length - 1;
            Checks.same("troubles of all in run " + run, loft.many(8), due[run] ? 1 : 0);
            Checks.same("trouble of the last one in run " + run, loft.ofJumper(last, 8), due[run] ? 1 : 0);
        }
    }

    /**
     * One flight a day, always 9 NEAT. The 17th DRAW is 2, with a WEAR of 1: not below 2. The 31st one is 0, with a
     * WEAR of 1.875: below 3.
     */
    private static void wearBringsTrouble() {
        ChuteLoft loft = ready(1, 3);
        for (int flight = 1; flight <= 31; flight++) {
            loft.board(0, 0, 4);
            loft.fly(0, 1);
            if (flight == 17) {
                Checks.same("the 17th draw", loft.many(5), 2);
            }
            Checks.same("troubles till flight " + flight, loft.many(8), flight == 31 ? 1 : 0);
            Checks.same("due behind flight " + flight, loft.ofRig(0, 1), flight == 31 ? 29 : 59 + flight);
            loft.pass(1);
            loft.renew(0);
            loft.pack(0, 0);
        }
        Checks.same("the 31st draw", loft.many(5), 0);
        Checks.same("wear", loft.wear(0), 2.125);
    }

    private static ChuteLoft packedByOne() {
        ChuteLoft loft = new ChuteLoft();
        for (int i = 0; i < 8; i++) {
            loft.jumper(80, 3);
            loft.rig(200, 60);
        }
        for (int i = 0; i < 8; i++) {
            loft.pack(i, 7);
        }
        return loft;
    }

    /** The fifth and the sixth DRAW are 6 and 1: who leaves first has 6, though the other one opens first. */
    private static void drawsGoByOrder() {
        ChuteLoft loft = packedByOne();
        for (int i = 0; i < 4; i++) {
            loft.lend(i, i);
            loft.board(i, 0, 4);
        }
        loft.fly(0, 9);
        loft.lend(4, 4);
        loft.lend(5, 5);
        loft.board(5, 1, 6);
        loft.board(4, 0, 2);
        Checks.same("who leaves first", loft.order(0), 4);
        loft.fly(0, 1);
        Checks.same("trouble of who leaves first", loft.ofJumper(4, 8), 0);
        Checks.same("trouble of who leaves then", loft.ofJumper(5, 8), 1);
    }

    /**
     * Flat to 4 with TROUBLE: WX of 4 counts half for two TICKS, the reserve opens in 3, and brings 16 times 3.0. With
     * a LICENCE of 0 it does the same.
     */
    private static void troubleFallsToTheReserve() {
        for (int licence = 0; licence <= 3; licence += 3) {
            ChuteLoft loft = new ChuteLoft();
            loft.jumper(80, licence);
            loft.rig(200, 60);
            loft.lend(0, 0);
            for (int i = 0; i < 6; i++) {
                loft.pack(0, 0);
                loft.board(0, 0, 4);
                if (i == 5) {
                    loft.wind(4, 10, 0);
                }
                loft.fly(i == 5 ? 55 : 0, 1);
            }
            Checks.same("trouble of the sixth flight", loft.many(8), 1);
            Checks.same("x under the reserve", loft.landed(0, false), 55.0 + 10.0 - 48.0);
            Checks.same("y under the reserve", loft.landed(0, true), 0.0);
            Checks.same("points under the reserve", loft.ofJumper(0, 5), 5 * 3 + 1);
        }
    }

    private static void pairsMeet() {
        ChuteLoft loft = ready(3, 3);
        for (int i = 0; i < 3; i++) {
            loft.board(i, 0, 4);
        }
        loft.fly(-30, 1);
        Checks.same("three pairs, once each", loft.many(10), 3);
        loft.pack(0, 0);
        loft.pack(1, 1);
        loft.board(0, 0, 4);
        loft.board(1, 0, 4);
        loft.fly(0, 1);
        Checks.same("a pair of before once more", loft.many(10), 4);
        loft.pack(0, 0);
        loft.pack(1, 1);
        loft.board(0, 0, 4);
        loft.board(1, 0, 4);
        loft.fly(0, 9);
        Checks.same("far apart in time", loft.many(10), 4);
    }

    /**
     * Both fall to y = 80 and are steered back in y alone, by 4 a TICK; x stays 0 and 10. A WX of 1 in the LAYER in
     * which they open is felt one TICK earlier by the first one: 9 apart.
     */
    private static void pairsTenApartInXDoNotMeet() {
        for (int wx = 0; wx <= 1; wx++) {
            ChuteLoft loft = ready(2, 0);
            loft.wind(9, 20, 0);
            for (int layer = 5; layer <= 8; layer++) {
                loft.wind(layer, 0, 20);
            }
            loft.wind(4, wx, 0);
            loft.board(0, 0, 4);
            loft.board(1, 0, 4);
            Checks.same("would meet with " + wx, loft.wouldMeet(1, -20), wx);
            loft.fly(-20, 1);
            Checks.same("met with " + wx, loft.many(10), wx);
            Checks.same("y of both", loft.landed(0, true) + loft.landed(1, true), 40.0);
            Checks.same("x apart", loft.landed(1, false) - loft.landed(0, false), 10.0);
        }
    }

    /**
     * Both fall to y = 80; under the canopy y is 4 nearer and WY more, so that the first one, a TICK ahead, is WY less
     * 4 farther. In the LAYER 4 they are 9 apart in x, below it 10.
     */
    private static void pairsTenApartInYDoNotMeet() {
        for (int wy = 13; wy <= 14; wy++) {
            ChuteLoft loft = ready(2, 0);
            loft.board(0, 0, 4);
            loft.board(1, 0, 4);
            loft.wind(9, 20, 0);
            for (int layer = 0; layer <= 8; layer++) {
                loft.wind(layer, layer == 4 ? 1 : 0, layer > 4 ? 20 : wy);
            }
            Checks.same("would meet with " + wy, loft.wouldMeet(1, -20), wy == 13 ? 1 : 0);
            loft.fly(-20, 1);
            Checks.same("met with " + wy, loft.many(10), wy == 13 ? 1 : 0);
            Checks.same("y with " + wy, loft.landed(0, true), 80.0 + 15 * (wy - 4));
        }
    }

    /**
     * A flat one and, three TICKS later, a steep one open in the LAYER 6 behind the same TICK, both 60 from the SPOT.
     * The first one (LOADING 16.25: a TICK a LAYER) is below it with the next TICK, and stays below the other one.
     */
    private static void whoJustOpenedMeets() {
        ChuteLoft loft = new ChuteLoft();
        loft.jumper(130, 3);
        loft.rig(80, 60);
        loft.jumper(80, 3);
        loft.rig(200, 60);
        for (int i = 0; i < 2; i++) {
            loft.lend(i, i);
            loft.pack(i, i);
        }
        for (int layer = 7; layer <= 9; layer++) {
            loft.wind(layer, 20, 0);
        }
        loft.board(0, 0, 6);
        loft.board(1, 1, 6);
        Checks.same("just opened", loft.wouldMeet(3, -60), 1);
        Checks.same("a tick later", loft.wouldMeet(4, -60), 0);
        loft.fly(-60, 3);
        Checks.same("met", loft.many(10), 1);
    }

    /** A TICK a LAYER, and a TICK apart: never in the same LAYER, but both at 0.0 on the ground. */
    private static void whoLandedMeetsNobody() {
        ChuteLoft loft = new ChuteLoft();
        for (int i = 0; i < 2; i++) {
            loft.jumper(130, 3);
            loft.rig(80, 60);
            loft.lend(i, i);
            loft.pack(i, i);
            loft.board(i, 1, 6);
        }
        Checks.same("would meet", loft.wouldMeet(1, 0), 0);
        loft.fly(0, 1);
        Checks.same("met", loft.many(10), 0);
        Checks.same("x of both", loft.landed(0, false) + loft.landed(1, false), 0.0);
    }

    private static void holding() {
        ChuteLoft loft = ready(2, 3);
        Checks.same("held at first", loft.hold(true), false);
        Checks.same("asked", loft.many(11), 1);
        Checks.same("held again", loft.hold(true), true);
        Checks.same("a reason not to board", loft.refuses(0), 0);
        Checks.throwsState(loft, "board while held", () -> loft.board(0, 0, 4));
        Checks.same("let go", loft.hold(false), true);
        Checks.same("asked then", loft.many(11), 0);
        Checks.same("let go again", loft.hold(false), false);
        Checks.same("boards then", loft.board(0, 0, 4), 1);
        loft.hold(true);
        Checks.throwsState(loft, "fly while held", () -> loft.fly(0, 1));
        Checks.same("the wind while held", loft.wind(0, 1, 1), 2);
        loft.hold(false);
        Checks.same("flies then", loft.fly(0, 1), 3);
    }

    private static void ringingTheGong() {
        ChuteLoft loft = ready(2, 3);
        loft.board(0, 0, 4);
        Checks.same("a gong", loft.gong(), 1);
        Checks.same("another one", loft.gong(), 2);
        Checks.same("held by neither", loft.many(11), 0);
        Checks.same("nobody boarded or left", loft.many(4), 1);
        loft.hold(true);
        Checks.same("one while held", loft.gong(), 3);
        Checks.same("held still", loft.many(11), 1);
        Checks.same("refused", loft.many(12), 3);
        loft.hold(false);
        Checks.same("who is aboard is not counted", loft.board(0, 0, 4), -6);
        Checks.same("refused still", loft.many(12), 3);
    }
}
