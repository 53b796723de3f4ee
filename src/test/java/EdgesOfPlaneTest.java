import java.util.function.Supplier;

/**
 * The edges of why one may not BOARD, of the ORDER, and of the promises 9 to 13, sentence by sentence; each quoted
 * above its test. What a JUMP does is in EdgesOfJumpTest.
 */
final class EdgesOfPlaneTest {
    private static final int[] GROUND_LIMITS = {8, 14, 20, 30};

    /**
     * The reckoning of each licence: WEIGHT and AREA of just 4, 6 and 9, and of the next LOADING that there is above.
     */
    private static final int[][] AT_THE_LIMIT = {{80, 200}, {60, 100}, {90, 100}};
    private static final int[][] NEXT_ABOVE = {{119, 297}, {128, 213}, {127, 141}};
    private static final int[][] NEXT_BELOW = {{119, 298}, {130, 217}, {125, 139}};

    public static void main(String[] args) {
        noRig();
        notPacked();
        dueAheadOfThisDay();
        groundAboveTheLimitOfTheLicence();
        loadingAboveTheLimitOfTheLicence();
        moreThanThirtyDays();
        thirtyDaysFromTheLastJump();
        fourIsNotAbove();
        isAboard();
        theFirstThatHolds();
        whyNotChangesNothing();

        whoBoards();
        stylesOfTwo();
        layersToOpen();
        layersToOpenOfALicenceOfZero();
        boardingWhileHeld();
        sixAreAboard();
        theFirstReasonToThrow();
        throwingAheadOfWhyNot();
        howManyAreAboard();

        licencesAboveZeroGoAhead();
        flatOnesGoAhead();
        theGreaterLoadingGoesAhead();
        theSmallerNumberGoesAhead();
        theWholeOrder();

        howManyWereAboard();
        leavingChangesNothingElse();

        spotsToFlyFrom();
        gapsToFlyWith();
        flyingWhileHeld();
        flyingWithNobody();
        wrongArgumentsAheadOfHeldOrNobody();
        aFullFlight();

        whetherItWasHeld();
        nobodyBoardsWhileHeld();
        whatGoesOnWhileHeld();

        howManyWereRefused();
        theGongHoldsNothing();
        nothingElseIsCounted();
        Checks.finish();
    }

    /** That `refuses` and `board` agree, and that nobody is aboard then who may not be. */
    private static void whyNot(ChuteLoft loft, int jumper, String what, int due) {
        Checks.same(what, loft.refuses(jumper), due);
        int aboard = loft.many(4);
        Checks.same("boarding, " + what, loft.board(jumper, 0, 4), due == 0 ? aboard + 1 : -due);
        Checks.same("aboard then, " + what, loft.many(4), due == 0 ? aboard + 1 : aboard);
    }

    // ---- "Why a JUMPER may not BOARD, the first that holds: .. 0 nothing."

    /** "1 no RIG": at first, and when it is lent to another one. */
    private static void noRig() {
        whyNot(Edges.told(1, 1), 0, "no rig at first", 1);
        ChuteLoft loft = PlaneTest.ready(2, 3);
        loft.lend(0, 1);
        whyNot(loft, 0, "lent to another one", 1);
        whyNot(loft, 1, "who has it now", 0);
    }

    /** "2 it is not PACKED": at first, and behind a FLIGHT. */
    private static void notPacked() {
        ChuteLoft loft = Edges.told(1, 1);
        loft.lend(0, 0);
        whyNot(loft, 0, "not packed at first", 2);
        loft.pack(0, 0);
        whyNot(loft, 0, "packed", 0);
        loft.fly(0, 1);
        whyNot(loft, 0, "not packed behind a flight", 2);
    }

    /**
     * "3 its reserve was DUE ahead of this DAY": not on the DAY itself, on the first one, a later one, the last one.
     */
    private static void dueAheadOfThisDay() {
        for (int day : new int[] {0, 1, 440, 499}) {
            ChuteLoft loft = Edges.onDay(new ChuteLoft(), day);
            loft.jumper(80, 3);
            loft.rig(200, 0);
            loft.lend(0, 0);
            loft.pack(0, 0);
            whyNot(loft, 0, "due on this day, " + day, 0);
            loft.empty();
            loft.pass(1);
            whyNot(loft, 0, "due the day ahead, " + day, 3);
            loft.renew(0);
            whyNot(loft, 0, "renewed, " + day, 0);
        }
        ChuteLoft loft = Edges.onDay(Edges.one(50, 0, 300), 60);
        whyNot(loft, 0, "60 days", 0);
        loft.empty();
        loft.pass(1);
        whyNot(loft, 0, "61 days", 3);
    }

    /** "4 GROUND is above 8, 14, 20 or 30 (by LICENCE)", in whatever way WX and WY make it. */
    private static void groundAboveTheLimitOfTheLicence() {
        for (int licence = 0; licence <= 3; licence++) {
            int limit = GROUND_LIMITS[licence];
            for (int wx = -20; wx <= 20; wx++) {
                int rest = limit - Math.abs(wx);
                if (rest >= 0 && rest < 20) {
                    ChuteLoft loft = PlaneTest.ready(1, licence);
                    loft.wind(0, wx, wx % 2 == 0 ? rest + 1 : -rest - 1);
                    whyNot(loft, 0, "one above the ground of licence " + licence, 4);
                    loft.wind(0, wx, wx % 2 == 0 ? rest : -rest);
                    whyNot(loft, 0, "at the ground of licence " + licence, 0);
                }
            }
            ChuteLoft loft = PlaneTest.ready(1, licence);
            loft.wind(0, -20, 20);
            whyNot(loft, 0, "the most ground", 4);
        }
    }

    /** "5 LOADING is above 4f, 6f, 9f or 20f (by LICENCE)": 20f is above all that there is, 130 on 80. */
    private static void loadingAboveTheLimitOfTheLicence() {
        for (int licence = 0; licence <= 2; licence++) {
            ChuteLoft loft = new ChuteLoft();
            Edges.add(loft, AT_THE_LIMIT[licence][0], licence, AT_THE_LIMIT[licence][1]);
            Edges.add(loft, NEXT_ABOVE[licence][0], licence, NEXT_ABOVE[licence][1]);
            Edges.add(loft, NEXT_ABOVE[licence][0], licence + 1, NEXT_ABOVE[licence][1]);
            Edges.add(loft, NEXT_BELOW[licence][0], licence, NEXT_BELOW[licence][1]);
            Edges.add(loft, 50, licence, 300);
            Edges.add(loft, 130, licence, 80);
            int[] due = {0, 5, 0, 0, 0, 5};
            for (int i = 0; i < due.length; i++) {
                whyNot(loft, i, "loading " + loft.loading(i) + ", licence " + loft.ofJumper(i, 1), due[i]);
            }
        }
        whyNot(Edges.one(130, 3, 80), 0, "the greatest loading of all", 0);
        whyNot(Edges.one(50, 3, 300), 0, "the smallest loading of all", 0);
    }

    /**
     * "or above 4f, if more than 30 DAYS went by since the DAY of the last JUMP": by every LICENCE, from being told.
     */
    private static void moreThanThirtyDays() {
        for (int licence = 1; licence <= 3; licence++) {
            for (int told : new int[] {0, 1, 7}) {
                ChuteLoft loft = Edges.onDay(new ChuteLoft(), told);
                Edges.add(loft, NEXT_ABOVE[0][0], licence, NEXT_ABOVE[0][1]);
                Edges.onDay(loft, told + 30);
                whyNot(loft, 0, "30 days, licence " + licence, 0);
                loft.empty();
                loft.pass(1);
                whyNot(loft, 0, "31 days, licence " + licence, 5);
                loft.renew(0);
                Edges.onDay(loft, told + 61);
                whyNot(loft, 0, "61 days, licence " + licence, 5);
            }
        }
        ChuteLoft loft = Edges.onDay(Edges.one(130, 3, 80), 500);
        loft.renew(0);
        whyNot(loft, 0, "500 days", 5);
    }

    /** "since the DAY of the last JUMP": a JUMP counts, one that only was to be does not. */
    private static void thirtyDaysFromTheLastJump() {
        ChuteLoft loft = Edges.onDay(Edges.one(90, 3, 200), 20);
        whyNot(loft, 0, "20 days", 0);
        loft.fly(0, 1);
        loft.pack(0, 0);
        Edges.onDay(loft, 50);
        whyNot(loft, 0, "30 days from the jump", 0);
        loft.empty();
        loft.pass(1);
        whyNot(loft, 0, "31 days from the jump", 5);
    }

    /** "above 4f": just 4 is not, however many DAYS went by. */
    private static void fourIsNotAbove() {
        for (int licence = 0; licence <= 3; licence++) {
            ChuteLoft loft = Edges.onDay(PlaneTest.ready(1, licence), 500);
            loft.renew(0);
            whyNot(loft, 0, "500 days at 4, licence " + licence, 0);
        }
    }

    /** "6 is aboard": the first one and the last one of a plane, none who has left, nor behind a FLIGHT. */
    private static void isAboard() {
        ChuteLoft loft = Edges.aboard(6, 5, 3);
        whyNot(loft, 0, "aboard", 6);
        whyNot(loft, 4, "aboard as the last one", 6);
        whyNot(loft, 5, "on the ground", 0);
        loft.empty();
        whyNot(loft, 0, "on the ground again", 0);
        loft.fly(0, 1);
        loft.pack(0, 0);
        whyNot(loft, 0, "behind a flight", 0);
    }

    /** "the first that holds": each pair of reasons that can meet, and all that can meet at once. */
    private static void theFirstThatHolds() {
        ChuteLoft loft = Edges.told(1, 1);
        loft.wind(0, 20, 20);
        whyNot(loft, 0, "1 and 4", 1);
        whyNot(reasons(false, 60, 0, 61), 0, "2 and 3", 2);
        whyNot(reasons(false, 60, 31, 0), 0, "2 and 4", 2);
        whyNot(reasons(false, 80, 0, 31), 0, "2 and 5", 2);
        whyNot(reasons(true, 60, 31, 61), 0, "3 and 4", 3);
        whyNot(reasons(true, 90, 0, 61), 0, "3 and 5", 3);
        whyNot(reasons(true, 90, 31, 31), 0, "4 and 5", 4);
        whyNot(reasons(false, 90, 31, 61), 0, "2 to 5", 2);
        whyNot(reasons(true, 90, 31, 61), 0, "3 to 5", 3);
        whyNot(reasons(true, 90, 0, 31), 0, "5 alone", 5);
        ChuteLoft aboard = Edges.aboard(1, 1, 3);
        aboard.wind(0, 15, 16);
        whyNot(aboard, 0, "4 and 6", 4);
        aboard.wind(0, 15, 15);
        whyNot(aboard, 0, "6 alone", 6);
    }

    /** One with a LICENCE of 3, that WEIGHT on 200, a reserve DUE in 60 DAYS, so much GROUND, so many DAYS later. */
    private static ChuteLoft reasons(boolean isPacked, int weight, int ground, int days) {
        ChuteLoft loft = new ChuteLoft();
        loft.jumper(weight, 3);
        loft.rig(200, 60);
        loft.lend(0, 0);
        if (isPacked) {
            loft.pack(0, 0);
        }
        loft.wind(0, ground / 2, ground / 2 - ground);
        return Edges.onDay(loft, days);
    }

    /** "Returns .. why not, times -1": one who may not BOARD is not aboard, and nothing else differs then. */
    private static void whyNotChangesNothing() {
        Edges.changesNothing(() -> Edges.told(2, 2), "no rig", x -> x.board(0, 1, 6), -1);
        Edges.changesNothing(() -> reasons(false, 60, 0, 0), "not packed", x -> x.board(0, 1, 6), -2);
        Edges.changesNothing(() -> reasons(true, 60, 0, 61), "due", x -> x.board(0, 1, 6), -3);
        Edges.changesNothing(() -> reasons(true, 60, 31, 0), "ground", x -> x.board(0, 1, 6), -4);
        Edges.changesNothing(() -> reasons(true, 90, 0, 31), "loading", x -> x.board(0, 1, 6), -5);
        Edges.changesNothing(() -> Edges.aboard(2, 2, 3), "aboard in another style", x -> x.board(0, 1, 6), -6);
        Edges.changesNothing(() -> Edges.aboard(2, 2, 3), "aboard to open lower", x -> x.board(1, 0, 2), -6);
    }

    // ---- Promise 9 and "At most 6 are aboard, each with a STYLE (0 flat, 1 steep) and a LAYER to OPEN .."

    /** "Throws IndexOutOfBoundsException if there is no such JUMPER". */
    private static void whoBoards() {
        Edges.indices(() -> PlaneTest.ready(8, 3), "board", 0, 7, (x, v) -> x.board(v, 0, 4));
        Edges.indices(() -> PlaneTest.ready(1, 3), "board as the only one", 0, 0, (x, v) -> x.board(v, 0, 4));
    }

    /** "Throws IllegalArgumentException if style is not 0 or 1". */
    private static void stylesOfTwo() {
        Edges.arguments(() -> PlaneTest.ready(2, 3), "style", 0, 1, (x, v) -> x.board(0, v, 4));
        Edges.arguments(() -> PlaneTest.ready(2, 0), "style of licence 0", 0, 1, (x, v) -> x.board(0, v, 4));
    }

    /** "or open not as section 3 says": "a LAYER to OPEN (2 to 6 ..)". */
    private static void layersToOpen() {
        for (int licence = 1; licence <= 3; licence++) {
            Supplier<ChuteLoft> maker = readyWith(licence);
            Edges.arguments(maker, "open of licence " + licence, 2, 6, (x, v) -> x.board(0, 0, v));
            Edges.arguments(maker, "open of licence " + licence + ", steep", 2, 6, (x, v) -> x.board(0, 1, v));
        }
    }

    /** "with a LICENCE of 0 4 to 6". */
    private static void layersToOpenOfALicenceOfZero() {
        Edges.arguments(readyWith(0), "open of licence 0", 4, 6, (x, v) -> x.board(0, 0, v));
        Edges.arguments(readyWith(0), "open of licence 0, steep", 4, 6, (x, v) -> x.board(0, 1, v));
        Edges.argument(readyWith(0), "open 2 of licence 0", x -> x.board(0, 0, 2));
        Edges.argument(readyWith(0), "open 1 of licence 0", x -> x.board(0, 0, 1));
    }

    private static Supplier<ChuteLoft> readyWith(int licence) {
        return () -> PlaneTest.ready(2, licence);
    }

    /** "Throws IllegalStateException if the plane is HELD": with nobody, with one, and with six aboard. */
    private static void boardingWhileHeld() {
        for (int aboard : new int[] {0, 1, 5, 6}) {
            Supplier<ChuteLoft> maker = () -> Edges.held(Edges.aboard(8, aboard, 3));
            Edges.state(maker, "held, " + aboard + " aboard", x -> x.board(7, 0, 4));
        }
    }

    /** "or 6 are aboard": the sixth one is taken, a seventh one is not. */
    private static void sixAreAboard() {
        Checks.same("the sixth one", Edges.aboard(8, 5, 3).board(5, 0, 4), 6);
        Edges.state(() -> Edges.aboard(8, 6, 3), "a seventh one", x -> x.board(6, 0, 4));
        Edges.state(() -> Edges.aboard(8, 6, 3), "a seventh one who would go first", x -> x.board(7, 0, 2));
        ChuteLoft loft = Edges.aboard(8, 6, 3);
        loft.empty();
        Checks.same("one of an empty plane", loft.board(7, 0, 4), 1);
    }

    /** "If several exceptions apply, the one that is named first is thrown." */
    private static void theFirstReasonToThrow() {
        for (int nobody : new int[] {-1, 8, Edges.LEAST, Edges.MOST}) {
            Edges.index(() -> PlaneTest.ready(8, 3), "style 2 of " + nobody, x -> x.board(nobody, 2, 4));
            Edges.index(() -> PlaneTest.ready(8, 3), "open 7 of " + nobody, x -> x.board(nobody, 0, 7));
            Edges.index(() -> Edges.held(PlaneTest.ready(8, 3)), "held, " + nobody, x -> x.board(nobody, 0, 4));
            Edges.index(() -> Edges.aboard(8, 6, 3), "six aboard, " + nobody, x -> x.board(nobody, 0, 4));
        }
        for (int wrong : new int[] {-1, 2, Edges.LEAST, Edges.MOST}) {
            Edges.argument(() -> Edges.held(PlaneTest.ready(8, 3)), "held, style " + wrong, x -> x.board(0, wrong, 4));
            Edges.argument(() -> Edges.aboard(8, 6, 3), "six aboard, style " + wrong, x -> x.board(6, wrong, 4));
        }
        for (int wrong : new int[] {1, 7, Edges.LEAST, Edges.MOST}) {
            Edges.argument(() -> Edges.held(PlaneTest.ready(8, 3)), "held, open " + wrong, x -> x.board(0, 0, wrong));
            Edges.argument(() -> Edges.aboard(8, 6, 3), "six aboard, open " + wrong, x -> x.board(6, 0, wrong));
        }
        Edges.argument(() -> Edges.held(PlaneTest.ready(8, 0)), "held, open 3 of licence 0", x -> x.board(0, 0, 3));
        Edges.argument(() -> Edges.aboard(8, 6, 0), "six aboard, open 3 of licence 0", x -> x.board(6, 0, 3));
    }

    /** Where a call throws, it does not answer why not. */
    private static void throwingAheadOfWhyNot() {
        Edges.argument(() -> Edges.told(1, 1), "style 2 without a rig", x -> x.board(0, 2, 4));
        Edges.argument(() -> Edges.told(1, 1), "open 7 without a rig", x -> x.board(0, 0, 7));
        Edges.argument(() -> Edges.aboard(2, 2, 3), "style 2 aboard", x -> x.board(0, 2, 4));
        Edges.state(() -> Edges.held(Edges.told(1, 1)), "held, without a rig", x -> x.board(0, 0, 4));
        Edges.state(() -> Edges.held(Edges.aboard(2, 2, 3)), "held, aboard", x -> x.board(0, 0, 4));
        Edges.state(() -> Edges.aboard(8, 6, 3), "one of six aboard", x -> x.board(5, 0, 4));
        Edges.state(EdgesOfPlaneTest::sixAndOneWithoutARig, "six aboard, without a rig", x -> x.board(6, 0, 4));
    }

    private static ChuteLoft sixAndOneWithoutARig() {
        ChuteLoft loft = Edges.aboard(6, 6, 3);
        loft.jumper(80, 3);
        return loft;
    }

    /** "Returns how many are aboard": 1 to 6. */
    private static void howManyAreAboard() {
        ChuteLoft loft = PlaneTest.ready(8, 3);
        for (int i = 1; i <= 6; i++) {
            Checks.same("aboard with " + (8 - i), loft.board(8 - i, 0, 4), i);
            Checks.same("as it is asked", loft.many(4), i);
        }
    }

    // ---- "They go in this ORDER: .."

    private static void order(ChuteLoft loft, String what, int... due) {
        Checks.same("aboard, " + what, loft.many(4), due.length);
        for (int place = 0; place < due.length; place++) {
            Checks.same("place " + place + ", " + what, loft.order(place), due[place]);
            Checks.same("place of " + due[place] + ", " + what, loft.ofJumper(due[place], 7), place);
        }
    }

    /** "those with a LICENCE above 0 ahead of the others": though steep, less loaded, and of a greater number. */
    private static void licencesAboveZeroGoAhead() {
        for (int licence = 1; licence <= 3; licence++) {
            for (int first = 0; first <= 1; first++) {
                ChuteLoft loft = Edges.one(80, 0, 200);
                Edges.add(loft, 50, licence, 300);
                loft.board(first, first, 4);
                loft.board(1 - first, 1 - first, 4);
                order(loft, "licence " + licence + " and 0, boarding first: " + first, 1, 0);
            }
        }
    }

    /** "of those that are alike in that, flat ones ahead of steep ones": 1 and 3 are alike in that. */
    private static void flatOnesGoAhead() {
        int[][] licences = {{0, 0}, {3, 1}, {1, 3}, {3, 3}};
        for (int[] licence : licences) {
            for (int first = 0; first <= 1; first++) {
                ChuteLoft loft = Edges.one(80, licence[0], 200);
                Edges.add(loft, 50, licence[1], 300);
                loft.board(first, 1 - first, 4);
                loft.board(1 - first, first, 4);
                order(loft, "licences " + licence[0] + ", " + licence[1] + " by style", 1, 0);
            }
        }
    }

    /** "of those alike in both, the one with the greater LOADING": by as little as there is between two of them. */
    private static void theGreaterLoadingGoesAhead() {
        int[][] loads = {{80, 200, 119, 297}, {119, 298, 80, 200}, {50, 300, 130, 80}, {100, 251, 101, 253}};
        for (int[] load : loads) {
            for (int boarding = 0; boarding < 4; boarding++) {
                ChuteLoft loft = Edges.one(load[0], 2, load[1]);
                Edges.add(loft, load[2], 3, load[3]);
                int first = boarding % 2;
                loft.board(first, boarding / 2, 2 + 4 * first);
                loft.board(1 - first, boarding / 2, 6 - 4 * first);
                order(loft, "weights " + load[0] + ", " + load[2] + " by loading", 1, 0);
            }
        }
    }

    /** "then the smaller number": of LOADINGS alike, whatever the WEIGHTS, LICENCES and LAYERS to OPEN. */
    private static void theSmallerNumberGoesAhead() {
        int[][] licences = {{0, 0, 0}, {3, 2, 1}, {1, 2, 3}};
        for (int[] licence : licences) {
            for (int first = 0; first < 3; first++) {
                ChuteLoft loft = Edges.one(80, licence[0], 200);
                Edges.add(loft, 100, licence[1], 250);
                Edges.add(loft, 50, licence[2], 125);
                for (int i = 0; i < 3; i++) {
                    int jumper = (first + 2 * i) % 3;
                    loft.board(jumper, 0, 6 - jumper);
                }
                order(loft, "by number", 0, 1, 2);
            }
        }
    }

    /** Six in all the ways in which one may go ahead of another one, BOARDING in each turn of both directions. */
    private static void theWholeOrder() {
        for (int turn = 0; turn < 6; turn++) {
            for (int step = 1; step <= 5; step += 4) {
                ChuteLoft loft = new ChuteLoft();
                Edges.add(loft, 60, 0, 200);
                Edges.add(loft, 70, 0, 200);
                Edges.add(loft, 80, 1, 200);
                Edges.add(loft, 80, 3, 200);
                Edges.add(loft, 70, 2, 200);
                Edges.add(loft, 75, 2, 200);
                int[] styles = {0, 1, 1, 1, 0, 1};
                for (int i = 0; i < 6; i++) {
                    int jumper = (turn + step * i) % 6;
                    loft.board(jumper, styles[jumper], 5);
                }
                order(loft, "six, turn " + turn + ", step " + step, 4, 2, 3, 5, 0, 1);
            }
        }
    }

    // ---- Promise 10

    /** "Returns how many were aboard": none to 6, and then none; HELD or not. */
    private static void howManyWereAboard() {
        for (int aboard = 0; aboard <= 6; aboard++) {
            ChuteLoft loft = Edges.aboard(6, aboard, 3);
            Checks.same("were aboard", loft.empty(), aboard);
            Checks.same("are aboard", loft.many(4), 0);
            Checks.same("were aboard then", loft.empty(), 0);
            Checks.same("were aboard a held plane", Edges.held(Edges.aboard(6, aboard, 3)).empty(), aboard);
        }
    }

    /** "All leave the plane, on the ground": no JUMP, no FLIGHT, no WEAR, no DRAW, and all PACKED still. */
    private static void leavingChangesNothingElse() {
        ChuteLoft loft = Edges.aboard(6, 6, 3);
        loft.empty();
        Checks.same("as if nobody had boarded", Edges.future(loft), Edges.future(PlaneTest.ready(6, 3)));
        Edges.changesNothing(() -> PlaneTest.ready(2, 3), "an empty plane", x -> x.empty(), 0);
        ChuteLoft held = Edges.held(Edges.aboard(2, 2, 3));
        held.empty();
        Checks.same("held still", held.many(11), 1);
    }

    // ---- Promise 11

    /** "Throws IllegalArgumentException if spot is not -200 to 200". */
    private static void spotsToFlyFrom() {
        Edges.arguments(() -> Edges.aboard(2, 2, 3), "spot", -200, 200, (x, v) -> x.fly(v, 1));
        for (int spot : new int[] {-200, 200}) {
            ChuteLoft loft = Edges.aboard(1, 1, 3);
            Checks.same("points from " + spot, loft.fly(spot, 1), 0);
            // Flat to 4: fifteen TICKS of 8 nearer.
            Checks.same("x from " + spot, loft.landed(0, false), spot > 0 ? 80.0 : -80.0);
        }
    }

    /** "or gap not 1 to 9". */
    private static void gapsToFlyWith() {
        Edges.arguments(() -> Edges.aboard(2, 2, 3), "gap", 1, 9, (x, v) -> x.fly(0, v));
        Edges.argument(() -> Edges.aboard(2, 2, 3), "spot 201 and gap 10", x -> x.fly(201, 10));
        for (int gap : new int[] {1, 9}) {
            ChuteLoft loft = Edges.aboard(2, 2, 3);
            loft.fly(0, gap);
            Checks.same("x of the second one, gap " + gap, loft.landed(1, false), gap == 1 ? 0.0 : 270.0 - 120.0);
        }
    }

    /** "Throws IllegalStateException if the plane is HELD". */
    private static void flyingWhileHeld() {
        Edges.state(() -> Edges.held(Edges.aboard(6, 1, 3)), "held, one aboard", x -> x.fly(0, 1));
        Edges.state(() -> Edges.held(Edges.aboard(6, 6, 3)), "held, six aboard", x -> x.fly(200, 9));
        Edges.state(() -> Edges.held(PlaneTest.ready(1, 3)), "held, nobody aboard", x -> x.fly(0, 1));
    }

    /** "or nobody is aboard": not at first, not behind a FLIGHT, not when all have left. */
    private static void flyingWithNobody() {
        Edges.state(() -> PlaneTest.ready(6, 3), "nobody aboard", x -> x.fly(0, 1));
        Edges.state(EdgesOfPlaneTest::flown, "nobody aboard behind a flight", x -> x.fly(0, 1));
        Edges.state(EdgesOfPlaneTest::left, "nobody aboard any more", x -> x.fly(0, 1));
        Checks.same("one aboard", Edges.aboard(6, 1, 3).fly(0, 1), 3);
    }

    private static ChuteLoft flown() {
        ChuteLoft loft = Edges.aboard(2, 2, 3);
        loft.fly(0, 1);
        return loft;
    }

    private static ChuteLoft left() {
        ChuteLoft loft = Edges.aboard(2, 2, 3);
        loft.empty();
        return loft;
    }

    /** "If several exceptions apply, the one that is named first is thrown." */
    private static void wrongArgumentsAheadOfHeldOrNobody() {
        for (int wrong : new int[] {-201, 201, Edges.LEAST, Edges.MOST}) {
            Edges.argument(() -> Edges.held(Edges.aboard(1, 1, 3)), "held, spot " + wrong, x -> x.fly(wrong, 1));
            Edges.argument(() -> PlaneTest.ready(1, 3), "nobody aboard, spot " + wrong, x -> x.fly(wrong, 1));
        }
        for (int wrong : new int[] {0, 10, -1, Edges.LEAST, Edges.MOST}) {
            Edges.argument(() -> Edges.held(Edges.aboard(1, 1, 3)), "held, gap " + wrong, x -> x.fly(0, wrong));
            Edges.argument(() -> PlaneTest.ready(1, 3), "nobody aboard, gap " + wrong, x -> x.fly(0, wrong));
        }
    }

    /** "Returns POINTS of all together": 18 of six at most, and none. */
    private static void aFullFlight() {
        ChuteLoft loft = Edges.aboard(8, 6, 3);
        // The sixth one leaves 150 farther: 120 of each 125 are steered.
        Checks.same("points of six", loft.fly(-75, 1), 18);
        int sum = 0;
        for (int i = 0; i < 6; i++) {
            sum += loft.ofJumper(i, 5);
        }
        Checks.same("the points of each", sum, 18);
        Checks.same("no points of six", Edges.aboard(8, 6, 3).fly(200, 9), 0);
    }

    // ---- Promise 12

    /** "Returns whether it was": each of the four ways. */
    private static void whetherItWasHeld() {
        ChuteLoft loft = new ChuteLoft();
        boolean[] calls = {false, false, true, true, false, true, false};
        boolean was = false;
        for (boolean is : calls) {
            Checks.same("whether it was", loft.hold(is), was);
            Checks.same("whether it is", loft.many(11), is ? 1 : 0);
            was = is;
        }
        Edges.changesNothing(() -> Edges.aboard(2, 2, 3), "not held as before", x -> x.hold(false), false);
    }

    /** "While the plane is HELD (by hand), nobody BOARDS, and it does not FLY": until it is not HELD any more. */
    private static void nobodyBoardsWhileHeld() {
        ChuteLoft loft = Edges.held(Edges.aboard(2, 1, 3));
        Checks.same("boards", Checks.outcome(() -> loft.board(1, 0, 4)), "throws.IllegalStateException");
        Checks.same("flies", Checks.outcome(() -> loft.fly(0, 1)), "throws.IllegalStateException");
        loft.hold(true);
        Checks.same("boards, held twice", Checks.outcome(() -> loft.board(1, 0, 4)), "throws.IllegalStateException");
        loft.hold(false);
        Checks.same("boards then", loft.board(1, 0, 4), 2);
        Checks.same("flies then", loft.fly(0, 1), 6);
    }

    /** All else goes on. */
    private static void whatGoesOnWhileHeld() {
        ChuteLoft loft = Edges.held(Edges.told(1, 1));
        Checks.same("a jumper", loft.jumper(80, 3), 1);
        Checks.same("a rig", loft.rig(200, 0), 1);
        Checks.same("lent", loft.lend(1, 1), -1);
        Checks.same("packed", loft.pack(1, 1), 9);
        Checks.same("a day", loft.pass(1), 1);
        Checks.same("renewed", loft.renew(1), 61);
        Checks.same("wind", loft.wind(0, 1, 1), 2);
        Checks.same("gong", loft.gong(), 1);
        Checks.same("why not", loft.refuses(1), 0);
        Checks.same("takes", loft.takes(1, 1, 2), 7 + 3 * 3);
    }

    // ---- Promise 13

    /** "Returns how many were REFUSED ever, with this": none at first. */
    private static void howManyWereRefused() {
        ChuteLoft loft = new ChuteLoft();
        Checks.same("none at first", loft.many(12), 0);
        for (int i = 1; i <= 100; i++) {
            Checks.same("gong " + i, loft.gong(), i);
            Checks.same("as it is asked", loft.many(12), i);
        }
    }

    /** "who rings it holds nothing .. HELD stays": neither becomes it nor ends it. */
    private static void theGongHoldsNothing() {
        ChuteLoft loft = Edges.aboard(2, 1, 3);
        loft.gong();
        Checks.same("not held", loft.many(11), 0);
        Checks.same("boards", loft.board(1, 0, 4), 2);
        loft.hold(true);
        loft.gong();
        Checks.same("held still", loft.many(11), 1);
        Checks.same("flies", Checks.outcome(() -> loft.fly(0, 1)), "throws.IllegalStateException");
        Checks.same("was held", loft.hold(false), true);
        Checks.same("flies then", loft.fly(0, 1), 6);
    }

    /** "(counted; nothing else is: no BOARDING ..)": neither one that throws, nor one that answers why not. */
    private static void nothingElseIsCounted() {
        ChuteLoft loft = Edges.held(Edges.aboard(2, 1, 3));
        loft.jumper(80, 3);
        Checks.outcome(() -> loft.board(1, 0, 4));
        Checks.outcome(() -> loft.fly(0, 1));
        loft.hold(false);
        loft.board(0, 0, 4);
        loft.board(2, 0, 4);
        Checks.outcome(() -> loft.board(1, 2, 4));
        Checks.same("refused", loft.many(12), 0);
        String[] before = new String[13];
        for (int what = 0; what < 12; what++) {
            before[what] = "" + loft.many(what);
        }
        loft.gong();
        for (int what = 0; what < 12; what++) {
            Checks.same("many(" + what + ") behind a gong", "" + loft.many(what), before[what]);
        }
        Checks.same("refused then", loft.many(12), 1);
        Checks.same("the first place", loft.order(0), 0);
    }
}
