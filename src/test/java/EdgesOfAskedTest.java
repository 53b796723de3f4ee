/** The edges of the promises 14 to 22, sentence by sentence; each quoted above its test. */
final class EdgesOfAskedTest {
    public static void main(String[] args) {
        whichJumperIsAsked();
        whatIsAskedOfAJumper();
        nobodyAheadOfAWrongWhat();
        theRigOfAJumper();
        theDayOfTheLastJump();
        jumpsAndPointsEver();
        packedOnThisDay();
        thePlaceInTheOrder();
        troublesEver();

        whoseLoading();
        loadingIsAFloat();
        loadingWithoutARig();

        whoLanded();
        whereOneLandedLast();

        whoRefuses();
        zeroToSix();

        whichRigIsAsked();
        whatIsAskedOfARig();
        noRigAheadOfAWrongWhat();
        whoHasIt();

        whichRigsWear();
        wearAsADouble();

        whichLayersWind();

        whatIsCounted();
        countsAtTheirMost();

        placesInTheOrder();
        noPlaceBehindTheLastOne();
        Checks.finish();
    }

    // ---- Promise 14

    /** "Throws IndexOutOfBoundsException if there is no such JUMPER": with one, and with eight. */
    private static void whichJumperIsAsked() {
        Edges.indices(() -> Edges.told(1, 8), "ofJumper, the only one", 0, 0, (x, v) -> x.ofJumper(v, 0));
        Edges.indices(() -> Edges.told(8, 1), "ofJumper", 0, 7, (x, v) -> x.ofJumper(v, 8));
        for (int i = 0; i < 8; i++) {
            Checks.same("the weight of " + i, Edges.told(8, 0).ofJumper(i, 0), 60 + i);
        }
    }

    /** "Throws IllegalArgumentException if what is not 0 to 8". */
    private static void whatIsAskedOfAJumper() {
        Edges.arguments(() -> Edges.aboard(2, 1, 3), "ofJumper, what", 0, 8, (x, v) -> x.ofJumper(0, v));
        int[] due = {60, 3, -1, 0, 0, 0, 0, -1, 0};
        for (int what = 0; what <= 8; what++) {
            Checks.same("ofJumper(0, " + what + ")", Edges.told(1, 1).ofJumper(0, what), due[what]);
        }
    }

    /** "If several exceptions apply, the one that is named first is thrown." */
    private static void nobodyAheadOfAWrongWhat() {
        for (int wrong : new int[] {-1, 9, Edges.LEAST, Edges.MOST}) {
            Edges.index(() -> Edges.told(2, 3), "ofJumper(2, " + wrong + ")", x -> x.ofJumper(2, wrong));
            Edges.index(() -> Edges.told(2, 3), "ofJumper(-1, " + wrong + ")", x -> x.ofJumper(-1, wrong));
        }
    }

    /** "2 RIG (NONE)": the smallest number, the greatest one, and NONE again. */
    private static void theRigOfAJumper() {
        ChuteLoft loft = Edges.told(2, 8);
        loft.lend(0, 0);
        loft.lend(7, 1);
        Checks.same("the first rig", loft.ofJumper(0, 2), 0);
        Checks.same("the last rig", loft.ofJumper(1, 2), 7);
        loft.lend(7, 0);
        Checks.same("the last rig then", loft.ofJumper(0, 2), 7);
        Checks.same("none", loft.ofJumper(1, 2), -1);
    }

    /** "3 the DAY of the last JUMP": it stays while one is only aboard, and as DAYS go by. */
    private static void theDayOfTheLastJump() {
        ChuteLoft loft = Edges.onDay(PlaneTest.ready(1, 3), 9);
        loft.board(0, 0, 4);
        Checks.same("aboard", loft.ofJumper(0, 3), 0);
        loft.empty();
        Checks.same("left", loft.ofJumper(0, 3), 0);
        loft.board(0, 0, 4);
        loft.fly(0, 1);
        Checks.same("jumped", loft.ofJumper(0, 3), 9);
        loft.pass(1);
        Checks.same("a day later", loft.ofJumper(0, 3), 9);
    }

    /** "4 JUMPS ever, 5 POINTS ever": of each alone, 0, 1 and 3 POINTS together. */
    private static void jumpsAndPointsEver() {
        ChuteLoft loft = PlaneTest.ready(2, 3);
        int[] spots = {200, 130, 0, 140, 141};
        int[] points = {0, 1, 4, 5, 5};
        for (int i = 0; i < spots.length; i++) {
            loft.board(0, 0, 4);
            loft.fly(spots[i], 1);
            Checks.same("jumps", loft.ofJumper(0, 4), i + 1);
            Checks.same("points", loft.ofJumper(0, 5), points[i]);
            loft.pass(1);
            loft.pack(0, 0);
        }
        Checks.same("jumps of another one", loft.ofJumper(1, 4), 0);
        Checks.same("points of another one", loft.ofJumper(1, 5), 0);
        Checks.same("jumps of all", loft.many(7), 5);
    }

    /** "6 what was PACKED on this DAY": by that one, none on a new DAY. */
    private static void packedOnThisDay() {
        ChuteLoft loft = Edges.told(2, 8);
        for (int i = 0; i < 8; i++) {
            Checks.same("packed till now", loft.ofJumper(1, 6), i);
            loft.pack(i, 1);
        }
        Checks.same("packed in all", loft.ofJumper(1, 6), 8);
        Checks.same("packed by the other one", loft.ofJumper(0, 6), 0);
        loft.pass(1);
        Checks.same("packed on a new day", loft.ofJumper(1, 6), 0);
    }

    /** "7 the place in the ORDER, if aboard (NONE)": 0 to 5. */
    private static void thePlaceInTheOrder() {
        ChuteLoft loft = PlaneTest.ready(8, 3);
        for (int i = 7; i >= 2; i--) {
            Checks.same("not aboard yet", loft.ofJumper(i, 7), -1);
            loft.board(i, 0, 4);
            Checks.same("ahead of all", loft.ofJumper(i, 7), 0);
            Checks.same("behind all", loft.ofJumper(7, 7), 7 - i);
        }
        Checks.same("on the ground", loft.ofJumper(0, 7), -1);
        loft.empty();
        Checks.same("left", loft.ofJumper(7, 7), -1);
        loft.board(7, 0, 4);
        loft.fly(0, 1);
        Checks.same("flown", loft.ofJumper(7, 7), -1);
    }

    /** "8 TROUBLES ever": of each alone; the sixth and the tenth FLIGHT of hands that tire. */
    private static void troublesEver() {
        ChuteLoft loft = Edges.told(2, 1);
        loft.lend(0, 1);
        int[] due = {0, 0, 0, 0, 0, 1, 1, 1, 1, 2};
        for (int i = 0; i < 10; i++) {
            loft.pack(0, 0);
            loft.renew(0);
            loft.board(1, 0, 4);
            loft.fly(0, 1);
            Checks.same("troubles till flight " + i, loft.ofJumper(1, 8), due[i]);
            Checks.same("troubles of who packed", loft.ofJumper(0, 8), 0);
            Checks.same("troubles of all", loft.many(8), due[i]);
        }
    }

    // ---- Promise 15

    /** "Throws IndexOutOfBoundsException if there is no such JUMPER". */
    private static void whoseLoading() {
        Edges.indices(() -> PlaneTest.ready(8, 3), "loading", 0, 7, (x, v) -> x.loading(v));
        Edges.indices(() -> Edges.told(2, 8), "loading without rigs", 0, 1, (x, v) -> x.loading(v));
    }

    /** "LOADING (float) .. WEIGHT * 10f / AREA (in this order)"; "(as a double)". */
    private static void loadingIsAFloat() {
        int[][] rows = {{50, 300}, {130, 80}, {70, 300}, {60, 225}, {80, 200}, {100, 300}};
        double[] due = {1.6666666269302368, 16.25, 2.3333332538604736, 2.6666667461395264, 4.0, 3.3333332538604736};
        for (int i = 0; i < rows.length; i++) {
            Checks.same(rows[i][0] + " on " + rows[i][1], Edges.one(rows[i][0], 3, rows[i][1]).loading(0), due[i]);
        }
    }

    /** "0.0 without a RIG": at first, and when it is lent to another one. */
    private static void loadingWithoutARig() {
        ChuteLoft loft = Edges.told(2, 1);
        Checks.same("at first", loft.loading(0), 0.0);
        loft.lend(0, 0);
        Checks.same("with one", loft.loading(0), 3.0);
        loft.lend(0, 1);
        Checks.same("lent to another one", loft.loading(0), 0.0);
        Checks.same("who has it then", loft.loading(1), (double) (61 * 10f / 200));
    }

    // ---- Promise 16

    /** "Throws IndexOutOfBoundsException if there is no such JUMPER": whether x or y is asked. */
    private static void whoLanded() {
        Edges.indices(() -> PlaneTest.ready(8, 3), "x landed", 0, 7, (x, v) -> x.landed(v, false));
        Edges.indices(() -> Edges.told(1, 8), "y landed", 0, 0, (x, v) -> x.landed(v, true));
    }

    /** "Returns where that one LANDED last; 0.0 ahead of the first JUMP": not where it only would be. */
    private static void whereOneLandedLast() {
        ChuteLoft loft = PlaneTest.ready(8, 3);
        for (int i = 0; i < 8; i++) {
            Checks.same("x ahead of the first jump", loft.landed(i, false), 0.0);
            Checks.same("y ahead of the first jump", loft.landed(i, true), 0.0);
        }
        loft.wind(9, 0, 15);
        loft.wouldLand(7, 0, 4, -200, false);
        loft.board(7, 0, 4);
        Checks.same("x aboard", loft.landed(7, false), 0.0);
        loft.fly(-200, 1);
        Checks.same("x", loft.landed(7, false), -80.0);
        Checks.same("y", loft.landed(7, true), 15.0);
        loft.wouldLand(7, 0, 4, 200, false);
        Checks.same("x still", loft.landed(7, false), -80.0);
        loft.pack(7, 7);
        loft.wind(9, 0, 0);
        loft.board(7, 0, 4);
        loft.fly(130, 1);
        Checks.same("x of the last one", loft.landed(7, false), 10.0);
        Checks.same("y of the last one", loft.landed(7, true), 0.0);
        Checks.same("x of another one", loft.landed(0, false), 0.0);
    }

    // ---- Promise 17; what each reason says is in EdgesOfPlaneTest

    /** "Throws IndexOutOfBoundsException if there is no such JUMPER". */
    private static void whoRefuses() {
        Edges.indices(() -> PlaneTest.ready(8, 3), "refuses", 0, 7, (x, v) -> x.refuses(v));
        Edges.indices(() -> Edges.told(1, 8), "refuses of the only one", 0, 0, (x, v) -> x.refuses(v));
    }

    /** "Returns why that one may not BOARD now (0 to 6)": all of them; a plane that is HELD, or full, is no reason. */
    private static void zeroToSix() {
        ChuteLoft loft = new ChuteLoft();
        loft.jumper(81, 0);
        loft.rig(200, 0);
        loft.wind(0, 9, 0);
        Checks.same("no rig", loft.refuses(0), 1);
        loft.lend(0, 0);
        loft.pass(1);
        Checks.same("not packed", loft.refuses(0), 2);
        loft.pack(0, 0);
        Checks.same("due", loft.refuses(0), 3);
        loft.renew(0);
        Checks.same("ground", loft.refuses(0), 4);
        loft.wind(0, 8, 0);
        Checks.same("loading", loft.refuses(0), 5);
        ChuteLoft full = Edges.held(Edges.aboard(8, 6, 3));
        Checks.same("aboard", full.refuses(5), 6);
        Checks.same("nothing, though full and held", full.refuses(6), 0);
    }

    // ---- Promise 18

    /** "Throws IndexOutOfBoundsException if there is no such RIG". */
    private static void whichRigIsAsked() {
        Edges.indices(() -> Edges.told(8, 1), "ofRig, the only one", 0, 0, (x, v) -> x.ofRig(v, 0));
        Edges.indices(() -> Edges.told(1, 8), "ofRig", 0, 7, (x, v) -> x.ofRig(v, 4));
        for (int i = 0; i < 8; i++) {
            Checks.same("the area of " + i, Edges.told(0, 8).ofRig(i, 0), 200 + i);
        }
    }

    /** "Throws IllegalArgumentException if what is not 0 to 4". */
    private static void whatIsAskedOfARig() {
        Edges.arguments(() -> Edges.aboard(2, 1, 3), "ofRig, what", 0, 4, (x, v) -> x.ofRig(0, v));
        int[] due = {200, 30, 0, 0, -1};
        int[] dueThen = {200, 30, 9, 1, 0};
        ChuteLoft loft = Edges.told(1, 1);
        for (int what = 0; what <= 4; what++) {
            Checks.same("ofRig(0, " + what + ")", loft.ofRig(0, what), due[what]);
        }
        loft.lend(0, 0);
        loft.pack(0, 0);
        for (int what = 0; what <= 4; what++) {
            Checks.same("ofRig(0, " + what + ") then", loft.ofRig(0, what), dueThen[what]);
        }
    }

    /** "If several exceptions apply, the one that is named first is thrown." */
    private static void noRigAheadOfAWrongWhat() {
        for (int wrong : new int[] {-1, 5, Edges.LEAST, Edges.MOST}) {
            Edges.index(() -> Edges.told(3, 2), "ofRig(2, " + wrong + ")", x -> x.ofRig(2, wrong));
            Edges.index(() -> Edges.told(3, 2), "ofRig(-1, " + wrong + ")", x -> x.ofRig(-1, wrong));
        }
    }

    /** "4 who has it (NONE)": the smallest number, the greatest one, and NONE again. */
    private static void whoHasIt() {
        ChuteLoft loft = Edges.told(8, 2);
        loft.lend(0, 0);
        Checks.same("the first one", loft.ofRig(0, 4), 0);
        loft.lend(0, 7);
        Checks.same("the last one", loft.ofRig(0, 4), 7);
        Checks.same("nobody", loft.ofRig(1, 4), -1);
        loft.lend(1, 7);
        Checks.same("nobody any more", loft.ofRig(0, 4), -1);
    }

    // ---- Promise 19

    /** "Throws IndexOutOfBoundsException if there is no such RIG". */
    private static void whichRigsWear() {
        Edges.indices(() -> Edges.told(8, 1), "wear of the only one", 0, 0, (x, v) -> x.wear(v));
        Edges.indices(() -> Edges.told(1, 8), "wear", 0, 7, (x, v) -> x.wear(v));
    }

    /** "Returns its WEAR (as a double)": of each RIG alone, whoever flies it; 0.0 at first. */
    private static void wearAsADouble() {
        ChuteLoft loft = PlaneTest.ready(2, 3);
        for (int i = 0; i < 5; i++) {
            Checks.same("wear of " + i + " flights", loft.wear(1), i / 16.0);
            loft.lend(1, i % 2);
            loft.board(i % 2, 0, 4);
            loft.fly(0, 1);
            loft.pass(1);
            loft.pack(1, 0);
        }
        Checks.same("wear of none", loft.wear(0), 0.0);
    }

    // ---- Promise 20

    /** "Throws IndexOutOfBoundsException if layer is not 0 to 9"; "whether WY, otherwise WX". */
    private static void whichLayersWind() {
        Edges.indices(EdgesOfAskedTest::windy, "wx of", 0, 9, (x, v) -> x.ofWind(v, false));
        Edges.indices(EdgesOfAskedTest::windy, "wy of", 0, 9, (x, v) -> x.ofWind(v, true));
        for (int layer = 0; layer <= 9; layer++) {
            Checks.same("wx of " + layer, windy().ofWind(layer, false), 2 * layer - 20);
            Checks.same("wy of " + layer, windy().ofWind(layer, true), 20 - layer);
            Checks.same("wx of " + layer + " at first", new ChuteLoft().ofWind(layer, false), 0);
            Checks.same("wy of " + layer + " at first", new ChuteLoft().ofWind(layer, true), 0);
        }
    }

    private static ChuteLoft windy() {
        ChuteLoft loft = new ChuteLoft();
        for (int layer = 0; layer <= 9; layer++) {
            loft.wind(layer, 2 * layer - 20, 20 - layer);
        }
        return loft;
    }

    // ---- Promise 21

    /** "Throws IllegalArgumentException if what is not 0 to 12". */
    private static void whatIsCounted() {
        Edges.arguments(ChuteLoft::new, "many", 0, 12, (x, v) -> x.many(v));
        Edges.arguments(() -> Edges.aboard(8, 6, 3), "many of a full loft", 0, 12, (x, v) -> x.many(v));
    }

    /** Each count as high as the document lets it be, or as one FLIGHT brings it. */
    private static void countsAtTheirMost() {
        ChuteLoft loft = Edges.onDay(PlaneTest.ready(8, 3), 500);
        loft.wind(0, -15, 15);
        for (int i = 0; i < 8; i++) {
            loft.renew(i);
        }
        for (int i = 0; i < 6; i++) {
            loft.board(i, 0, 4);
        }
        loft.fly(200, 9);
        loft.wind(0, 20, -20);
        loft.hold(true);
        // The first one lands at 35, 120 nearer and 45 by the wind, and each other one 270 farther.
        int[] due = {500, 8, 8, 40, 0, 1, 1, 6, 0, 5, 0, 1, 0};
        for (int what = 0; what <= 12; what++) {
            Checks.same("many(" + what + ") on the last day", loft.many(what), due[what]);
        }
        Checks.same("six aboard", Edges.aboard(8, 6, 3).many(4), 6);
        Checks.same("pairs of six", pairsOfSix(), 10);
    }

    /**
     * Three TICKS a LAYER, five flat ones a TICK apart: four pairs of one TICK, three of two TICKS; and the steep one,
     * who OPENS as the first one does, with the first three.
     */
    private static int pairsOfSix() {
        ChuteLoft loft = PlaneTest.ready(6, 3);
        loft.wind(9, 20, 0);
        for (int i = 0; i < 6; i++) {
            loft.board(i, i == 5 ? 1 : 0, 4);
        }
        loft.fly(-20, 1);
        return loft.many(10);
    }

    // ---- Promise 22

    /** "Throws IndexOutOfBoundsException if there is no such place": 0 to one less than are aboard. */
    private static void placesInTheOrder() {
        for (int aboard = 1; aboard <= 6; aboard++) {
            int count = aboard;
            Edges.indices(() -> Edges.aboard(8, count, 3), "place of " + count, 0, count - 1, (x, v) -> x.order(v));
        }
        for (int place = 0; place < 6; place++) {
            Checks.same("who goes there", Edges.aboard(8, 6, 3).order(place), place);
        }
    }

    /** Of nobody there is no place, be it at first, behind a FLIGHT, or when all have left. */
    private static void noPlaceBehindTheLastOne() {
        Edges.index(() -> PlaneTest.ready(6, 3), "place 0 at first", x -> x.order(0));
        Edges.index(() -> flown(6), "place 0 behind a flight", x -> x.order(0));
        Edges.index(() -> flown(6), "place 5 behind a flight", x -> x.order(5));
        ChuteLoft left = Edges.aboard(6, 6, 3);
        left.empty();
        left.board(3, 0, 4);
        Checks.same("place 0 of one", left.order(0), 3);
        Checks.same("place 1 of one", Checks.outcome(() -> left.order(1)), "throws.IndexOutOfBoundsException");
    }

    private static ChuteLoft flown(int aboard) {
        ChuteLoft loft = Edges.aboard(aboard, aboard, 3);
        loft.fly(0, 1);
        return loft;
    }
}
