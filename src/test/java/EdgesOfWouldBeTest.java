import java.math.BigInteger;
import java.util.ArrayList;
import java.util.List;
import java.util.function.Supplier;

/** The edges of the promises 23 to 28, sentence by sentence; each quoted above its test. */
final class EdgesOfWouldBeTest {
    public static void main(String[] args) {
        whoWouldLand();
        stylesLayersAndSpots();
        landingWithoutARig();
        whatIsNamedFirstOfLanding();
        whereOneLeavesAlone();
        whateverHindersTheBoarding();

        whoTakes();
        stylesAndLayers();
        takingWithoutARig();
        whatIsNamedFirstOfTaking();
        theFewestAndTheMostTicks();
        ticksOfALayer();

        gapsOfSpots();
        nobodyAboard();
        noneElseThanTwenties();
        theNearestOfTwoAlike();
        theMostOfSix();
        theNearestOfSeveral();
        theFirstAndTheLastSpot();
        pointsOfAllTogether();

        gapsAndSpotsOfMeeting();
        whoWouldMeet();

        whoseBest();
        noneIsBest();
        theGreatestThatIsLet();
        fourAtMostWithoutPractice();
        nobodysOrOnesOwn();
        ofSeveralTheSmallestNumber();
        whateverTheRigIsLike();

        digestsOfFullLofts();
        digestsWrapAround();
        productsAreCut();
        productsOfWear();
        spotOfThree();
        pairsOfThreeAndZero();

        nothingIsChanged();
        withoutTrouble();
        Checks.finish();
    }

    private static Supplier<ChuteLoft> lent() {
        return () -> PlaneTest.ready(8, 3);
    }

    private static Supplier<ChuteLoft> notLent() {
        return () -> Edges.told(2, 2);
    }

    // ---- Promise 23

    /** "Throws IndexOutOfBoundsException if there is no such JUMPER". */
    private static void whoWouldLand() {
        Edges.indices(lent(), "wouldLand", 0, 7, (x, v) -> x.wouldLand(v, 0, 4, 0, false));
        Edges.indices(() -> Edges.one(80, 3, 200), "wouldLand alone", 0, 0, (x, v) -> x.wouldLand(v, 0, 4, 0, true));
    }

    /** "Throws IllegalArgumentException if style is not 0 or 1, open not 2 to 6, or spot not -200 to 200". */
    private static void stylesLayersAndSpots() {
        for (int licence = 0; licence <= 3; licence++) {
            int of = licence;
            Supplier<ChuteLoft> maker = () -> PlaneTest.ready(1, of);
            Edges.arguments(maker, "style", 0, 1, (x, v) -> x.wouldLand(0, v, 4, 0, false));
            Edges.arguments(maker, "open of licence " + of, 2, 6, (x, v) -> x.wouldLand(0, 0, v, 0, false));
            Edges.arguments(maker, "open, steep, of licence " + of, 2, 6, (x, v) -> x.wouldLand(0, 1, v, 0, true));
        }
        Edges.arguments(() -> Edges.one(80, 3, 200), "spot", -200, 200, (x, v) -> x.wouldLand(0, 0, 4, v, false));
        Edges.argument(lent(), "spot -201, y", x -> x.wouldLand(0, 0, 4, -201, true));
        Edges.argument(lent(), "spot 201, y", x -> x.wouldLand(0, 0, 4, 201, true));
    }

    /** "Throws IllegalStateException if that one has no RIG": at first, and lent to another one. */
    private static void landingWithoutARig() {
        Edges.state(notLent(), "without a rig", x -> x.wouldLand(0, 0, 4, 0, false));
        Edges.state(notLent(), "without a rig, y", x -> x.wouldLand(1, 1, 2, -200, true));
        Edges.state(EdgesOfWouldBeTest::lentOn, "lent to another one", x -> x.wouldLand(0, 0, 4, 0, false));
        Checks.same("who has it then", lentOn().wouldLand(1, 0, 4, 200, false), 80.0);
    }

    private static ChuteLoft lentOn() {
        ChuteLoft loft = PlaneTest.ready(2, 3);
        loft.lend(0, 1);
        return loft;
    }

    /** "If several exceptions apply, the one that is named first is thrown." */
    private static void whatIsNamedFirstOfLanding() {
        for (int nobody : new int[] {-1, 2, Edges.LEAST, Edges.MOST}) {
            Edges.index(notLent(), nobody + " in style 2", x -> x.wouldLand(nobody, 2, 4, 0, false));
            Edges.index(notLent(), nobody + " to open in 7", x -> x.wouldLand(nobody, 0, 7, 0, false));
            Edges.index(notLent(), nobody + " from 201", x -> x.wouldLand(nobody, 0, 4, 201, false));
        }
        for (int wrong : new int[] {-1, 2, Edges.LEAST, Edges.MOST}) {
            Edges.argument(notLent(), "no rig, style " + wrong, x -> x.wouldLand(0, wrong, 4, 0, false));
        }
        for (int wrong : new int[] {1, 7, Edges.LEAST, Edges.MOST}) {
            Edges.argument(notLent(), "no rig, open " + wrong, x -> x.wouldLand(0, 0, wrong, 0, false));
        }
        for (int wrong : new int[] {-201, 201, Edges.LEAST, Edges.MOST}) {
            Edges.argument(notLent(), "no rig, spot " + wrong, x -> x.wouldLand(0, 0, 4, wrong, false));
        }
    }

    /** "x where that one leaves alone (y is 0.0)": the wind of the LAYER 9 does not shift where one leaves. */
    private static void whereOneLeavesAlone() {
        for (int wx = -20; wx <= 20; wx += 20) {
            ChuteLoft loft = PlaneTest.ready(2, 3);
            loft.wind(9, wx, 1);
            loft.board(0, 0, 4);
            loft.board(1, 0, 4);
            for (int spot = -200; spot <= 200; spot += 400) {
                double due = spot > 0 ? spot + wx - 120.0 : spot + wx + 120.0;
                Checks.same("x from " + spot + ", wx " + wx, loft.wouldLand(1, 0, 4, spot, false), due);
                Checks.same("y from " + spot + ", wx " + wx, loft.wouldLand(1, 0, 4, spot, true), 1.0);
            }
        }
    }

    /** "a JUMPER with a RIG": no more than that is asked. */
    private static void whateverHindersTheBoarding() {
        ChuteLoft loft = new ChuteLoft();
        loft.jumper(130, 0);
        loft.rig(80, 0);
        loft.lend(0, 0);
        loft.wind(0, 0, 20);
        Edges.onDay(loft, 500);
        loft.hold(true);
        // FORWARD is half of 20.25, a TICK a LAYER: two of them, and the LAYER 0 leaves y alone.
        Checks.same("x", loft.wouldLand(0, 0, 2, 200, false), 200.0 - 3 * 10.125);
        Checks.same("y", loft.wouldLand(0, 0, 2, 200, true), 20.0);
        Checks.same("takes", loft.takes(0, 0, 2), 2 * 7 + 3);
        ChuteLoft full = Edges.held(Edges.aboard(7, 6, 3));
        Checks.same("aboard in another style", full.wouldLand(0, 1, 2, 200, false), 200.0 - 72.0);
        Checks.same("beside a full plane", full.wouldLand(6, 1, 2, 200, false), 200.0 - 72.0);
        Checks.same("aboard, takes", full.takes(0, 1, 2), 7 + 9);
    }

    // ---- Promise 24

    /** "Throws IndexOutOfBoundsException if there is no such JUMPER". */
    private static void whoTakes() {
        Edges.indices(lent(), "takes", 0, 7, (x, v) -> x.takes(v, 0, 4));
        Edges.indices(() -> Edges.one(80, 3, 200), "takes alone", 0, 0, (x, v) -> x.takes(v, 0, 4));
    }

    /** "Throws IllegalArgumentException if style is not 0 or 1, or open not 2 to 6". */
    private static void stylesAndLayers() {
        for (int licence = 0; licence <= 3; licence++) {
            int of = licence;
            Supplier<ChuteLoft> maker = () -> PlaneTest.ready(1, of);
            Edges.arguments(maker, "style", 0, 1, (x, v) -> x.takes(0, v, 4));
            Edges.arguments(maker, "open of licence " + of, 2, 6, (x, v) -> x.takes(0, 0, v));
            Edges.arguments(maker, "open, steep, of licence " + of, 2, 6, (x, v) -> x.takes(0, 1, v));
        }
    }

    /** "Throws IllegalStateException if that one has no RIG". */
    private static void takingWithoutARig() {
        Edges.state(notLent(), "without a rig", x -> x.takes(0, 0, 4));
        Edges.state(notLent(), "without a rig, steep", x -> x.takes(1, 1, 2));
        Edges.state(EdgesOfWouldBeTest::lentOn, "lent to another one", x -> x.takes(0, 0, 4));
        Checks.same("who has it then", lentOn().takes(1, 0, 4), 25);
    }

    /** "If several exceptions apply, the one that is named first is thrown." */
    private static void whatIsNamedFirstOfTaking() {
        for (int nobody : new int[] {-1, 2, Edges.LEAST, Edges.MOST}) {
            Edges.index(notLent(), nobody + " in style 2", x -> x.takes(nobody, 2, 4));
            Edges.index(notLent(), nobody + " to open in 7", x -> x.takes(nobody, 0, 7));
        }
        for (int wrong : new int[] {-1, 2, Edges.LEAST, Edges.MOST}) {
            Edges.argument(notLent(), "no rig, style " + wrong, x -> x.takes(0, wrong, 4));
        }
        for (int wrong : new int[] {1, 7, Edges.LEAST, Edges.MOST}) {
            Edges.argument(notLent(), "no rig, open " + wrong, x -> x.takes(0, 0, wrong));
        }
    }

    /** "Returns how many TICKS that JUMP would take": 10 at least, 41 at most; no wind makes more or less of it. */
    private static void theFewestAndTheMostTicks() {
        ChuteLoft fast = Edges.one(130, 3, 80);
        ChuteLoft slow = Edges.one(50, 0, 300);
        for (int turn = 0; turn <= 1; turn++) {
            for (int open = 2; open <= 6; open++) {
                Checks.same("fast, steep, open " + open, fast.takes(0, 1, open), 10);
                Checks.same("fast, flat, open " + open, fast.takes(0, 0, open), 2 * (9 - open) + open + 1);
                Checks.same("slow, steep, open " + open, slow.takes(0, 1, open), 9 - open + 5 * (open + 1));
                Checks.same("slow, flat, open " + open, slow.takes(0, 0, open), 2 * (9 - open) + 5 * (open + 1));
            }
            for (int layer = 0; layer <= 9; layer++) {
                fast.wind(layer, 20, -20);
                slow.wind(layer, -20, 20);
            }
        }
        Checks.same("the most", slow.takes(0, 0, 6), 41);
    }

    /**
     * "After 1 and (8f / LOADING, cut to a whole number) TICKS in a LAYER": just at whole numbers, and next to them.
     */
    private static void ticksOfALayer() {
        // LOADINGS of 8 and 8.01, 4 and 4.007, 2.667 and 2.669, 2 and 2.007; and those next below.
        int[][] rows = {{64, 80, 2}, {129, 161, 1}, {80, 200, 3}, {119, 297, 2}, {60, 225, 4}, {79, 296, 3},
            {50, 250, 5}, {60, 299, 4}, {119, 298, 3}, {50, 251, 5}, {50, 300, 5}, {130, 80, 1},
            {52, 195, 4}, {72, 90, 2}};
        for (int[] row : rows) {
            ChuteLoft loft = Edges.one(row[0], 3, row[1]);
            Checks.same(row[0] + " on " + row[1], loft.takes(0, 1, 2), 7 + 3 * row[2]);
        }
    }

    // ---- Promise 25

    /** "Throws IllegalArgumentException if gap is not 1 to 9": with six aboard, and with nobody. */
    private static void gapsOfSpots() {
        Edges.arguments(() -> Edges.aboard(6, 6, 3), "gap", 1, 9, (x, v) -> x.spot(v));
        Edges.arguments(() -> PlaneTest.ready(6, 3), "gap of nobody", 1, 9, (x, v) -> x.spot(v));
        Edges.arguments(() -> Edges.held(Edges.aboard(6, 2, 3)), "gap while held", 1, 9, (x, v) -> x.spot(v));
    }

    /** "0, if nobody is aboard", whatever the winds; not even where somebody was. */
    private static void nobodyAboard() {
        ChuteLoft loft = blownTo(20);
        Checks.same("one aboard", loft.spot(1), -200);
        loft.empty();
        for (int gap = 1; gap <= 9; gap++) {
            Checks.same("nobody aboard, gap " + gap, loft.spot(gap), 0);
        }
        loft.board(0, 0, 2);
        loft.fly(0, 1);
        Checks.same("nobody aboard behind a flight", loft.spot(1), 0);
    }

    /**
     * Flat to 2, 140 farther as one falls. From -200: (-60) 8 below the LAYER 2, 26 below 1, 2 on the ground; from
     * -180: (-40) 12, 30, 6. So only the farthest SPOT has 3 POINTS.
     */
    private static ChuteLoft blownTo(int wx) {
        ChuteLoft loft = PlaneTest.ready(1, 3);
        for (int layer = 2; layer <= 9; layer++) {
            loft.wind(layer, wx, 0);
        }
        loft.wind(1, wx > 0 ? 14 : -14, 0);
        loft.board(0, 0, 2);
        return loft;
    }

    /**
     * "(-200, -180 and so on to 200)": with a WX of -10 in the LAYER 9 two leave 240 apart, and both get 3 POINTS from
     * -115 to -105 alone; of -120 and -100, with 4 each, -100 is nearer to 0.
     */
    private static void noneElseThanTwenties() {
        ChuteLoft loft = Edges.aboard(2, 2, 3);
        loft.wind(9, -10, 0);
        Checks.same("between two spots", loft.spot(6), -100);
        int[][] rows = {{-120, 4}, {-116, 4}, {-115, 6}, {-110, 6}, {-105, 6}, {-104, 4}, {-100, 4}};
        for (int[] row : rows) {
            ChuteLoft other = Edges.aboard(2, 2, 3);
            other.wind(9, -10, 0);
            Checks.same("points from " + row[0], other.fly(row[0], 6), row[1]);
        }
    }

    /**
     * Two leave 144 apart (GAP 3), are blown 138 to the left as they fall flat to 2, and come 72 nearer: both get 3
     * POINTS from 61 to 71 alone. From 60 it is 1 and 3, from 80 3 and 1.
     */
    private static ChuteLoft twoBetweenSpots() {
        ChuteLoft loft = PlaneTest.ready(2, 3);
        loft.wind(9, -18, 0);
        for (int layer = 3; layer <= 8; layer++) {
            loft.wind(layer, -20, 0);
        }
        loft.board(0, 0, 2);
        loft.board(1, 0, 2);
        return loft;
    }

    private static void theNearestOfTwoAlike() {
        Checks.same("the nearer one of 60 and 80", twoBetweenSpots().spot(3), 60);
        int[][] rows = {{60, 4, 1}, {61, 6, 3}, {71, 6, 3}, {72, 4, 3}, {80, 4, 3}};
        for (int[] row : rows) {
            ChuteLoft loft = twoBetweenSpots();
            Checks.same("points from " + row[0], loft.fly(row[0], 3), row[1]);
            Checks.same("points of the first one from " + row[0], loft.ofJumper(0, 5), row[2]);
        }
    }

    /**
     * Six leave 48 apart (GAP 1), and are blown and steered likewise: from 20 the second to the fifth one have 3 POINTS,
     * from 80 the first three of them, and the fourth one has 1.
     */
    private static void theMostOfSix() {
        int[][] rows = {{20, 12, 0}, {80, 10, 3}, {60, 10, 1}};
        Checks.same("spot of six", sixBetweenSpots().spot(1), 20);
        for (int[] row : rows) {
            ChuteLoft loft = sixBetweenSpots();
            Checks.same("points of six from " + row[0], loft.fly(row[0], 1), row[1]);
            Checks.same("points of the first one from " + row[0], loft.ofJumper(0, 5), row[2]);
        }
    }

    private static ChuteLoft sixBetweenSpots() {
        ChuteLoft loft = PlaneTest.ready(6, 3);
        loft.wind(9, -18, 0);
        for (int layer = 3; layer <= 8; layer++) {
            loft.wind(layer, -20, 0);
        }
        for (int i = 0; i < 6; i++) {
            loft.board(i, 0, 2);
        }
        return loft;
    }

    /** "of several that nearest to 0, of several the smallest one": see WouldBeTest for -40 and 40. */
    private static void theNearestOfSeveral() {
        for (int gap = 1; gap <= 9; gap++) {
            Checks.same("one in calm air, gap " + gap, Edges.aboard(1, 1, 3).spot(gap), 0);
        }
        // Flat to 4: a WX of 20 in seven LAYERS brings the one from -100 to 0.0, and the one from -80 to 20.0.
        for (int side = -1; side <= 1; side += 2) {
            ChuteLoft loft = Edges.aboard(1, 1, 3);
            for (int layer = 3; layer <= 9; layer++) {
                loft.wind(layer, side * 20, 0);
            }
            Checks.same("the nearest one of many, side " + side, loft.spot(1), side * -100);
        }
        ChuteLoft none = Edges.aboard(1, 1, 3);
        for (int layer = 0; layer <= 9; layer++) {
            none.wind(layer, 20, 0);
        }
        Checks.same("of all without points", none.spot(1), 0);
    }

    /** "-200 .. to 200": the first one and the last one are taken. */
    private static void theFirstAndTheLastSpot() {
        Checks.same("the first spot", blownTo(20).spot(1), -200);
        Checks.same("points from -200", blownTo(20).fly(-200, 1), 3);
        Checks.same("points from -180", blownTo(20).fly(-180, 1), 1);
        Checks.same("the last spot", blownTo(-20).spot(1), 200);
        Checks.same("points from 200", blownTo(-20).fly(200, 1), 3);
        Checks.same("points from 180", blownTo(-20).fly(180, 1), 1);
    }

    /** "with which all who are aboard would get the most POINTS together": as `fly` has it, from every SPOT. */
    private static void pointsOfAllTogether() {
        for (int gap = 1; gap <= 9; gap++) {
            for (int aboard = 1; aboard <= 6; aboard++) {
                int best = 0;
                int most = -1;
                for (int distance = 0; distance <= 200; distance += 20) {
                    for (int side = -1; side <= 1; side += 2) {
                        int points = Edges.aboard(6, aboard, 3).fly(side * distance, gap);
                        best = points > most ? side * distance : best;
                        most = Math.max(points, most);
                    }
                }
                Checks.same("spot of " + aboard + ", gap " + gap, Edges.aboard(6, aboard, 3).spot(gap), best);
            }
        }
    }

    // ---- Promise 26

    /** "Throws IllegalArgumentException if gap is not 1 to 9, or spot not -200 to 200": whoever is aboard. */
    private static void gapsAndSpotsOfMeeting() {
        for (int aboard = 0; aboard <= 6; aboard += 3) {
            int count = aboard;
            Supplier<ChuteLoft> maker = () -> Edges.held(Edges.aboard(6, count, 3));
            Edges.arguments(maker, "gap of " + count, 1, 9, (x, v) -> x.wouldMeet(v, 0));
            Edges.argument(maker, "gap 10, spot 201 of " + count, x -> x.wouldMeet(10, 201));
        }
        Edges.arguments(() -> Edges.aboard(2, 2, 3), "spot", -200, 200, (x, v) -> x.wouldMeet(1, v));
        Edges.argument(() -> PlaneTest.ready(2, 3), "spot -201 of nobody", x -> x.wouldMeet(1, -201));
        Edges.argument(() -> PlaneTest.ready(2, 3), "spot 201 of nobody", x -> x.wouldMeet(1, 201));
    }

    /** "Returns how many pairs would MEET": none without two; as in a FLIGHT without TROUBLE; HELD or not. */
    private static void whoWouldMeet() {
        for (int aboard = 0; aboard <= 6; aboard++) {
            for (int gap = 1; gap <= 9; gap += 2) {
                for (int spot = -200; spot <= 200; spot += 50) {
                    ChuteLoft loft = Edges.aboard(6, aboard, 3);
                    loft.wind(9, 20, 0);
                    loft.hold(true);
                    int would = loft.wouldMeet(gap, spot);
                    Checks.same("asked again", loft.wouldMeet(gap, spot), would);
                    Checks.same("none counted", loft.many(10), 0);
                    loft.hold(false);
                    if (aboard > 0) {
                        loft.fly(spot, gap);
                    }
                    Checks.same("pairs of " + aboard + ", gap " + gap + ", spot " + spot, loft.many(10), would);
                    Checks.same("none without two", aboard > 1 || would == 0, true);
                }
            }
        }
    }

    // ---- Promise 27

    /** "Throws IndexOutOfBoundsException if there is no such JUMPER": with RIGS, and without. */
    private static void whoseBest() {
        Edges.indices(() -> Edges.told(8, 1), "best", 0, 7, (x, v) -> x.best(v));
        Edges.indices(() -> Edges.told(1, 8), "best of the only one", 0, 0, (x, v) -> x.best(v));
        Edges.indices(() -> Edges.told(2, 0), "best without rigs", 0, 1, (x, v) -> x.best(v));
    }

    /** "NONE without one": without RIGS, with one that is too small, and with one that another one has. */
    private static void noneIsBest() {
        Checks.same("without rigs", Edges.told(1, 0).best(0), -1);
        ChuteLoft loft = new ChuteLoft();
        loft.jumper(130, 0);
        loft.jumper(50, 3);
        loft.rig(300, 0);
        Checks.same("too small", loft.best(0), -1);
        Checks.same("not for another one", loft.best(1), 0);
        loft.lend(0, 0);
        Checks.same("too small, though one's own", loft.best(0), -1);
        Checks.same("another one's", loft.best(1), -1);
    }

    /**
     * "the greatest that (5) of section 2 lets": 4, 6 and 9 are let, the LOADING next above is not; 16.25 is, with 3.
     */
    private static void theGreatestThatIsLet() {
        int[][] at = {{80, 200, 199}, {60, 100, 99}, {90, 100, 99}};
        for (int licence = 0; licence <= 2; licence++) {
            ChuteLoft loft = new ChuteLoft();
            loft.jumper(at[licence][0], licence);
            loft.jumper(at[licence][0], licence + 1);
            loft.rig(at[licence][2], 0);
            Checks.same("above the limit of licence " + licence, loft.best(0), -1);
            loft.rig(300, 0);
            Checks.same("the other one", loft.best(0), 1);
            loft.rig(at[licence][1] + 1, 0);
            Checks.same("below the limit", loft.best(0), 2);
            loft.rig(at[licence][1], 0);
            Checks.same("at the limit", loft.best(0), 3);
            loft.rig(at[licence][1] + 2, 0);
            Checks.same("none below it", loft.best(0), 3);
            Checks.same("of the licence above", loft.best(1), 0);
        }
        ChuteLoft loft = new ChuteLoft();
        loft.jumper(130, 3);
        for (int i = 0; i < 8; i++) {
            loft.rig(87 - i, 0);
            Checks.same("the greatest of all", loft.best(0), i);
        }
        ChuteLoft least = Edges.told(1, 0);
        least.rig(300, 0);
        Checks.same("the smallest of all", least.best(0), 0);
    }

    /** "or above 4f, if more than 30 DAYS went by since the DAY of the last JUMP". */
    private static void fourAtMostWithoutPractice() {
        for (int licence = 1; licence <= 3; licence++) {
            ChuteLoft loft = new ChuteLoft();
            loft.jumper(80, licence);
            int[] areas = {140, 199, 200, 201};
            for (int area : areas) {
                loft.rig(area, 0);
            }
            Edges.onDay(loft, 30);
            Checks.same("30 days, licence " + licence, loft.best(0), 0);
            if (licence < 3) {
                Checks.same("a jumper told then", loft.jumper(80, licence), 1);
                loft.pass(1);
                Checks.same("a day behind that", loft.best(1), 0);
            } else {
                loft.pass(1);
            }
            Checks.same("31 days, licence " + licence, loft.best(0), 2);
            Edges.onDay(loft, 500);
            Checks.same("500 days, licence " + licence, loft.best(0), 2);
        }
    }

    /** "the RIG, that nobody has or that one": not another one's, be that one aboard or not. */
    private static void nobodysOrOnesOwn() {
        ChuteLoft loft = Edges.aboard(2, 1, 3);
        Checks.same("one's own alone", loft.best(1), 1);
        Checks.same("one's own, aboard", loft.best(0), 0);
        loft.rig(250, 0);
        Checks.same("one's own", loft.best(1), 1);
        loft.rig(150, 0);
        Checks.same("nobody's", loft.best(1), 3);
        Checks.same("nobody's, for who is aboard", loft.best(0), 3);
        loft.lend(3, 1);
        Checks.same("one's own then", loft.best(1), 3);
        Checks.same("the one that is free again", loft.best(0), 0);
    }

    /** "of several the smallest number": two and eight alike, and the own one among them. */
    private static void ofSeveralTheSmallestNumber() {
        ChuteLoft loft = new ChuteLoft();
        loft.jumper(80, 3);
        loft.jumper(80, 3);
        loft.rig(250, 0);
        for (int i = 1; i < 8; i++) {
            loft.rig(200, 0);
            Checks.same("of " + i + " alike", loft.best(0), 1);
        }
        loft.lend(7, 0);
        Checks.same("one's own is the last one", loft.best(0), 1);
        loft.lend(1, 1);
        Checks.same("but for the one lent", loft.best(0), 2);
        Checks.same("who has that", loft.best(1), 1);
    }

    /**
     * Neither that it is not PACKED, nor overdue, nor that the wind is too strong, nor that the plane is HELD
     * matters.
     */
    private static void whateverTheRigIsLike() {
        ChuteLoft loft = new ChuteLoft();
        loft.jumper(60, 0);
        loft.rig(200, 0);
        Edges.onDay(loft, 500);
        loft.wind(0, 20, 20);
        loft.hold(true);
        Checks.same("best", loft.best(0), 0);
    }

    // ---- Promise 28

    /** The values "in this order", from the answers of the other calls. */
    private static List<Long> valuesOf(ChuteLoft loft) {
        List<Long> values = new ArrayList<>();
        for (int what = 0; what <= 12; what++) {
            values.add((long) loft.many(what));
        }
        for (int i = 0; i < loft.many(1); i++) {
            for (int what = 0; what <= 8; what++) {
                values.add((long) loft.ofJumper(i, what));
            }
            values.add((long) (1024 * loft.landed(i, false)));
            values.add((long) (1024 * loft.landed(i, true)));
            values.add((long) loft.refuses(i));
            values.add((long) loft.best(i));
        }
        for (int i = 0; i < loft.many(2); i++) {
            for (int what = 0; what <= 4; what++) {
                values.add((long) loft.ofRig(i, what));
            }
            values.add((long) (64 * loft.wear(i)));
        }
        for (int layer = 0; layer <= 9; layer++) {
            values.add((long) loft.ofWind(layer, false));
            values.add((long) loft.ofWind(layer, true));
        }
        values.add((long) loft.spot(3));
        values.add((long) loft.wouldMeet(3, 0));
        return values;
    }

    /** "A number d starts with 58311; then d becomes d * 31 + v", without an end to it. */
    private static BigInteger unbounded(List<Long> values) {
        BigInteger d = BigInteger.valueOf(58311);
        for (long value : values) {
            d = d.multiply(BigInteger.valueOf(31)).add(BigInteger.valueOf(value));
        }
        return d;
    }

    private static void digestIsDue(String what, ChuteLoft loft, int howMany) {
        List<Long> values = valuesOf(loft);
        Checks.same("values, " + what, values.size(), howMany);
        Checks.same("digest, " + what, loft.digest(), unbounded(values).longValue());
    }

    /** "JUMPER by JUMPER .. RIG by RIG .. LAYER by LAYER": none, one and eight of each. */
    private static void digestsOfFullLofts() {
        digestIsDue("empty", new ChuteLoft(), 13 + 20 + 2);
        digestIsDue("a jumper", Edges.told(1, 0), 13 + 13 + 20 + 2);
        digestIsDue("a rig", Edges.told(0, 1), 13 + 6 + 20 + 2);
        digestIsDue("eight jumpers", Edges.told(8, 0), 13 + 8 * 13 + 20 + 2);
        digestIsDue("eight rigs", Edges.told(0, 8), 13 + 8 * 6 + 20 + 2);
        for (int aboard = 0; aboard <= 6; aboard += 2) {
            ChuteLoft loft = Edges.aboard(8, aboard, 3);
            for (int layer = 0; layer <= 9; layer++) {
                loft.wind(layer, layer - 7, 12 - layer);
            }
            digestIsDue(aboard + " aboard", loft, 13 + 8 * 13 + 8 * 6 + 20 + 2);
            if (aboard > 0) {
                loft.fly(123, 4);
                loft.hold(true);
                loft.gong();
                digestIsDue(aboard + " flown", loft, 13 + 8 * 13 + 8 * 6 + 20 + 2);
            }
        }
    }

    /** "which wraps around as a 64-bit integer": to a number below 0, and to one above. */
    private static void digestsWrapAround() {
        boolean isBelow = false;
        boolean isAbove = false;
        for (int day = 1; day <= 20; day++) {
            ChuteLoft loft = Edges.onDay(new ChuteLoft(), day);
            BigInteger d = unbounded(valuesOf(loft));
            Checks.same("above all 64-bit integers", d.bitLength() > 64, true);
            Checks.same("digest of day " + day, loft.digest(), d.longValue());
            isBelow = isBelow || loft.digest() < 0;
            isAbove = isAbove || loft.digest() > 0;
        }
        Checks.same("both have been", isBelow && isAbove, true);
    }

    /**
     * "(each product cut to a whole number, as (long) does)": 70 on 300 lands at 124.00000095367432 from either side: a
     * product of 126976.0009.., so 126976 and -126976 (rounded down it would be -126977).
     */
    private static void productsAreCut() {
        for (int side = -1; side <= 1; side += 2) {
            ChuteLoft loft = Edges.one(70, 3, 300);
            loft.board(0, 1, 2);
            loft.fly(side * 200, 1);
            Checks.same("where", loft.landed(0, false), side * 124.00000095367432);
            List<Long> values = valuesOf(loft);
            Checks.same("the product", (long) values.get(13 + 9), side * 126976L);
            Checks.same("digest", loft.digest(), unbounded(values).longValue());
            ChuteLoft other = Edges.one(77, 3, 299);
            other.wind(9, 0, side * 7);
            other.board(0, 1, 2);
            other.fly(side * -200, 1);
            digestIsDue("both signs, " + side, other, 13 + 13 + 6 + 20 + 2);
        }
    }

    /** "64 times wear() (cut likewise)": a WEAR of 2.125, of 31 FLIGHTS, the last one with TROUBLE. */
    private static void productsOfWear() {
        ChuteLoft loft = PlaneTest.ready(1, 3);
        for (int flight = 0; flight < 31; flight++) {
            loft.board(0, 0, 4);
            loft.fly(0, 1);
            loft.pass(1);
            loft.renew(0);
            loft.pack(0, 0);
        }
        Checks.same("wear", loft.wear(0), 2.125);
        Checks.same("the product", (long) valuesOf(loft).get(13 + 13 + 5), 136L);
        digestIsDue("worn", loft, 13 + 13 + 6 + 20 + 2);
    }

    /** "spot() of 3": where those of 2 and 4 are others. */
    private static void spotOfThree() {
        int[] due = {80, 60, 0};
        for (int gap = 2; gap <= 4; gap++) {
            Checks.same("spot of " + gap, twoBetweenSpots().spot(gap), due[gap - 2]);
        }
        digestIsDue("a spot of 60", twoBetweenSpots(), 13 + 2 * 13 + 2 * 6 + 20 + 2);
    }

    /** "wouldMeet() of 3 and 0": where those of the GAPS 2 and 4, and of the SPOTS 1 or -1, are others. */
    private static void pairsOfThreeAndZero() {
        for (int side = -1; side <= 1; side += 2) {
            boolean isLeft = side > 0;
            Supplier<ChuteLoft> maker = () -> isLeft ? threeFromTheLeft() : threeFromTheRight();
            int would = maker.get().wouldMeet(3, 0);
            Checks.same("any", would > 0, true);
            Checks.same("as with a gap of 2", maker.get().wouldMeet(2, 0) == would, false);
            Checks.same("as with a gap of 4", maker.get().wouldMeet(4, 0) == would, false);
            Checks.same("as from " + side, maker.get().wouldMeet(3, side) == would, false);
            digestIsDue("three aboard", maker.get(), 13 + 3 * 13 + 3 * 6 + 20 + 2);
        }
    }

    private static ChuteLoft threeFromTheLeft() {
        ChuteLoft loft = PlaneTest.ready(3, 3);
        loft.wind(5, -10, 0);
        loft.wind(7, -10, 0);
        loft.board(0, 0, 6);
        loft.board(1, 1, 5);
        loft.board(2, 0, 4);
        return loft;
    }

    private static ChuteLoft threeFromTheRight() {
        ChuteLoft loft = PlaneTest.ready(3, 3);
        loft.wind(9, 10, 0);
        loft.wind(7, -20, 0);
        loft.wind(6, 15, 0);
        loft.board(0, 1, 6);
        loft.board(1, 1, 4);
        loft.board(2, 0, 4);
        return loft;
    }

    // ---- "what would be (nothing is changed; without TROUBLE)"

    private static void nothingIsChanged() {
        Supplier<ChuteLoft> maker = () -> Edges.aboard(8, 5, 3);
        Edges.changesNothing(maker, "wouldLand of one aboard", x -> x.wouldLand(0, 1, 2, 200, false), 128.0);
        Edges.changesNothing(maker, "wouldLand of another one", x -> x.wouldLand(7, 0, 6, -200, true), 0.0);
        Edges.changesNothing(maker, "takes of one aboard", x -> x.takes(4, 1, 6), 3 + 21);
        Edges.changesNothing(maker, "spot", x -> x.spot(9), 0);
        Edges.changesNothing(maker, "wouldMeet", x -> x.wouldMeet(1, 0) >= 0, true);
        Edges.changesNothing(maker, "best", x -> x.best(7), 7);
        Edges.changesNothing(maker, "digest", x -> x.digest() == maker.get().digest(), true);
    }

    /** The sixth DRAW, of the one who would fly now, brings TROUBLE: but nothing of what would be knows of it. */
    private static void withoutTrouble() {
        ChuteLoft loft = Edges.told(1, 0);
        loft.lend(loft.rig(150, 60), 0);
        for (int i = 0; i < 5; i++) {
            loft.pack(0, 0);
            loft.board(0, 0, 4);
            loft.fly(0, 1);
        }
        loft.pack(0, 0);
        for (int layer = 5; layer <= 9; layer++) {
            loft.wind(layer, 20, 0);
        }
        loft.board(0, 0, 4);
        // A LOADING of 4: 100 farther as one falls, 120 nearer then; under a reserve 48, so that -60 would be the SPOT.
        Checks.same("would land", loft.wouldLand(0, 0, 4, 25, false), 5.0);
        Checks.same("takes", loft.takes(0, 0, 4), 25);
        Checks.same("spot", loft.spot(1), 0);
        loft.fly(0, 1);
        Checks.same("trouble then", loft.many(8), 1);
        Checks.same("landed then", loft.landed(0, false), 100.0 - 48.0);
    }
}
