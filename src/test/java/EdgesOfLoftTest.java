import java.math.BigInteger;

/** The edges of section 1, of GROUND, and of the promises 1 to 8, sentence by sentence; each quoted above its test. */
final class EdgesOfLoftTest {
    public static void main(String[] args) {
        createsAnEmptyLoft();
        emptyLoftsHaveNothingInCommon();
        anEmptyLoftRefuses();

        weights();
        licences();
        eightJumpers();
        wrongArgumentsOfANinthJumper();
        jumpersAreNumberedFromZero();
        noRigAtFirst();
        theDayOfTheLastJumpAtFirst();

        areas();
        daysOfAReserve();
        eightRigs();
        wrongArgumentsOfANinthRig();
        rigsAreNumberedFromZero();
        dueAtFirst();
        rigsAtFirst();

        whoIsLent();
        nobodyElseHasItThen();
        theRigOfBeforeIsFree();
        lentToWhoHasIt();
        noSuchRigOrJumper();
        lentToWhoIsAboard();
        lentFromWhoIsAboard();
        whoIsNobodyAheadOfWhoIsAboard();
        lentAmongThoseOnTheGround();

        whoPacks();
        neatLessHowManyArePacked();
        neatIsZeroAtLeast();
        packedByThatJumperAlone();
        packedIsRefused();
        nobodyAheadOfPacked();
        refusedPackingDoesNotTire();

        whatIsRenewed();
        dueSixtyDaysFromNowOn();

        daysThatGoBy();
        theLastDay();
        wrongDaysAheadOfTheLastDay();
        nobodyWaitsAboard();
        nobodyHasPackedOnANewDay();

        layersOfWinds();
        windsOfEachSign();
        noSuchLayerAheadOfAWrongWind();
        groundIsThatOfTheLowestLayer();
        groundWithoutSigns();
        Checks.finish();
    }

    // ---- Promise 1

    /** "Creates an empty loft": all are 0 at first; "3 at first" (DRAW). */
    private static void createsAnEmptyLoft() {
        ChuteLoft loft = new ChuteLoft();
        for (int what = 0; what <= 12; what++) {
            Checks.same("many(" + what + ") at first", loft.many(what), what == 5 ? 3 : 0);
        }
        Checks.same("nobody leaves", loft.empty(), 0);
        for (int gap = 1; gap <= 9; gap++) {
            Checks.same("spot of nobody, gap " + gap, loft.spot(gap), 0);
            Checks.same("nobody meets, gap " + gap, loft.wouldMeet(gap, 0), 0);
        }
        BigInteger due = BigInteger.valueOf(58311).multiply(BigInteger.valueOf(31).pow(35));
        due = due.add(BigInteger.valueOf(3).multiply(BigInteger.valueOf(31).pow(29)));
        Checks.same("digest at first", loft.digest(), due.longValue());
        Checks.same("digest at first, reckoned elsewhere", loft.digest(), -7763469778732772938L);
    }

    /** "An object": what is told one of them is nothing to another one. */
    private static void emptyLoftsHaveNothingInCommon() {
        ChuteLoft before = new ChuteLoft();
        ChuteLoft used = Edges.aboard(3, 3, 3);
        used.wind(0, 1, 1);
        used.gong();
        used.fly(0, 1);
        used.hold(true);
        Checks.same("one made before", before.digest(), -7763469778732772938L);
        Checks.same("one made then", new ChuteLoft().digest(), -7763469778732772938L);
    }

    private static void anEmptyLoftRefuses() {
        for (int number : new int[] {-1, 0, 1, 7, 8, Edges.LEAST, Edges.MOST}) {
            String of = " of " + number + " in an empty loft";
            Edges.index(ChuteLoft::new, "lend" + of, x -> x.lend(number, number));
            Edges.index(ChuteLoft::new, "pack" + of, x -> x.pack(number, number));
            Edges.index(ChuteLoft::new, "renew" + of, x -> x.renew(number));
            Edges.index(ChuteLoft::new, "board" + of, x -> x.board(number, 0, 4));
            Edges.index(ChuteLoft::new, "ofJumper" + of, x -> x.ofJumper(number, 0));
            Edges.index(ChuteLoft::new, "loading" + of, x -> x.loading(number));
            Edges.index(ChuteLoft::new, "landed" + of, x -> x.landed(number, false));
            Edges.index(ChuteLoft::new, "refuses" + of, x -> x.refuses(number));
            Edges.index(ChuteLoft::new, "ofRig" + of, x -> x.ofRig(number, 0));
            Edges.index(ChuteLoft::new, "wear" + of, x -> x.wear(number));
            Edges.index(ChuteLoft::new, "order" + of, x -> x.order(number));
            Edges.index(ChuteLoft::new, "wouldLand" + of, x -> x.wouldLand(number, 0, 4, 0, false));
            Edges.index(ChuteLoft::new, "takes" + of, x -> x.takes(number, 0, 4));
            Edges.index(ChuteLoft::new, "best" + of, x -> x.best(number));
        }
        Edges.state(ChuteLoft::new, "fly an empty loft", x -> x.fly(0, 1));
    }

    // ---- Promise 2 and "JUMPERS: at most 8, numbered from 0, each with a WEIGHT (50 to 130), a LICENCE (0 to 3) .."

    /** "Throws IllegalArgumentException if weight is not 50 to 130". */
    private static void weights() {
        Edges.arguments(ChuteLoft::new, "weight", 50, 130, (x, v) -> x.jumper(v, 0));
        for (int weight : new int[] {50, 130}) {
            ChuteLoft loft = new ChuteLoft();
            loft.jumper(weight, 0);
            Checks.same("the weight " + weight, loft.ofJumper(0, 0), weight);
        }
    }

    /** "or licence not 0 to 3". */
    private static void licences() {
        Edges.arguments(ChuteLoft::new, "licence", 0, 3, (x, v) -> x.jumper(70, v));
        for (int licence = 0; licence <= 3; licence++) {
            ChuteLoft loft = new ChuteLoft();
            loft.jumper(70, licence);
            Checks.same("the licence " + licence, loft.ofJumper(0, 1), licence);
        }
        Edges.argument(ChuteLoft::new, "weight 49 and licence 4", x -> x.jumper(49, 4));
    }

    /** "Throws IllegalStateException if there are 8": the eighth one is taken, a ninth one is not. */
    private static void eightJumpers() {
        ChuteLoft loft = Edges.told(7, 0);
        Checks.same("the eighth one", loft.jumper(130, 3), 7);
        Checks.same("eight jumpers", loft.many(1), 8);
        Edges.state(() -> Edges.told(8, 0), "a ninth jumper, the least", x -> x.jumper(50, 0));
        Edges.state(() -> Edges.told(8, 0), "a ninth jumper, the most", x -> x.jumper(130, 3));
        Edges.state(() -> Edges.told(8, 8), "a ninth jumper beside eight rigs", x -> x.jumper(70, 1));
        Checks.same("eight rigs do not count", Edges.told(0, 8).jumper(70, 1), 0);
    }

    /** "If several exceptions apply, the one that is named first is thrown." */
    private static void wrongArgumentsOfANinthJumper() {
        for (int wrong : new int[] {49, 131, Edges.LEAST, Edges.MOST}) {
            Edges.argument(() -> Edges.told(8, 0), "a ninth jumper, weight " + wrong, x -> x.jumper(wrong, 0));
        }
        for (int wrong : new int[] {-1, 4, Edges.LEAST, Edges.MOST}) {
            Edges.argument(() -> Edges.told(8, 0), "a ninth jumper, licence " + wrong, x -> x.jumper(70, wrong));
        }
    }

    /** "numbered from 0": one who was refused has no number. */
    private static void jumpersAreNumberedFromZero() {
        ChuteLoft loft = new ChuteLoft();
        for (int i = 0; i < 8; i++) {
            Checks.outcome(() -> loft.jumper(49, 0));
            Checks.outcome(() -> loft.jumper(60, 4));
            Checks.same("the number of jumper " + i, loft.jumper(60 + i, i % 4), i);
        }
        for (int i = 0; i < 8; i++) {
            Checks.same("the weight of jumper " + i, loft.ofJumper(i, 0), 60 + i);
            Checks.same("the licence of jumper " + i, loft.ofJumper(i, 1), i % 4);
        }
    }

    /** "a RIG (NONE at first)", though there are some. */
    private static void noRigAtFirst() {
        ChuteLoft loft = Edges.told(8, 8);
        for (int i = 0; i < 8; i++) {
            Checks.same("the rig of jumper " + i, loft.ofJumper(i, 2), -1);
        }
    }

    /** "the DAY of the last JUMP (that on which that one was told, at first)": from DAY 0 to DAY 500. */
    private static void theDayOfTheLastJumpAtFirst() {
        for (int day : new int[] {0, 1, 499, 500}) {
            ChuteLoft loft = Edges.onDay(Edges.told(1, 0), day);
            loft.jumper(70, 1);
            Checks.same("told on day " + day, loft.ofJumper(1, 3), day);
            Checks.same("told ahead of day " + day, loft.ofJumper(0, 3), 0);
        }
    }

    // ---- Promise 3 and "RIGS: at most 8, numbered from 0, each with an AREA (80 to 300), a DUE DAY of its reserve .."

    /** "Throws IllegalArgumentException if area is not 80 to 300". */
    private static void areas() {
        Edges.arguments(ChuteLoft::new, "area", 80, 300, (x, v) -> x.rig(v, 0));
        for (int area : new int[] {80, 300}) {
            ChuteLoft loft = new ChuteLoft();
            loft.rig(area, 0);
            Checks.same("the area " + area, loft.ofRig(0, 0), area);
        }
    }

    /** "or days not 0 to 60". */
    private static void daysOfAReserve() {
        Edges.arguments(ChuteLoft::new, "days", 0, 60, (x, v) -> x.rig(100, v));
        Edges.argument(ChuteLoft::new, "area 79 and days 61", x -> x.rig(79, 61));
    }

    /** "Throws IllegalStateException if there are 8": the eighth one is taken, a ninth one is not. */
    private static void eightRigs() {
        ChuteLoft loft = Edges.told(0, 7);
        Checks.same("the eighth one", loft.rig(300, 60), 7);
        Checks.same("eight rigs", loft.many(2), 8);
        Edges.state(() -> Edges.told(0, 8), "a ninth rig, the least", x -> x.rig(80, 0));
        Edges.state(() -> Edges.told(0, 8), "a ninth rig, the most", x -> x.rig(300, 60));
        Edges.state(() -> Edges.told(8, 8), "a ninth rig beside eight jumpers", x -> x.rig(100, 1));
        Checks.same("eight jumpers do not count", Edges.told(8, 0).rig(100, 1), 0);
    }

    /** "If several exceptions apply, the one that is named first is thrown." */
    private static void wrongArgumentsOfANinthRig() {
        for (int wrong : new int[] {79, 301, Edges.LEAST, Edges.MOST}) {
            Edges.argument(() -> Edges.told(0, 8), "a ninth rig, area " + wrong, x -> x.rig(wrong, 0));
        }
        for (int wrong : new int[] {-1, 61, Edges.LEAST, Edges.MOST}) {
            Edges.argument(() -> Edges.told(0, 8), "a ninth rig, days " + wrong, x -> x.rig(100, wrong));
        }
    }

    /** "numbered from 0": one that was refused has no number. */
    private static void rigsAreNumberedFromZero() {
        ChuteLoft loft = new ChuteLoft();
        for (int i = 0; i < 8; i++) {
            Checks.outcome(() -> loft.rig(79, 0));
            Checks.outcome(() -> loft.rig(100, 61));
            Checks.same("the number of rig " + i, loft.rig(100 + i, i), i);
        }
        for (int i = 0; i < 8; i++) {
            Checks.same("the area of rig " + i, loft.ofRig(i, 0), 100 + i);
            Checks.same("the due day of rig " + i, loft.ofRig(i, 1), i);
        }
    }

    /** "in how many DAYS its reserve is DUE": from DAY 0 to DAY 560. */
    private static void dueAtFirst() {
        for (int day : new int[] {0, 1, 500}) {
            ChuteLoft loft = Edges.onDay(new ChuteLoft(), day);
            loft.rig(100, 0);
            loft.rig(100, 60);
            Checks.same("due on day " + day, loft.ofRig(0, 1), day);
            Checks.same("due 60 days behind day " + day, loft.ofRig(1, 1), day + 60);
        }
    }

    /** "NEAT (0 to 9; 0 at first), PACKED or not (not at first), and WEAR (a float; 0f at first)"; and who has it. */
    private static void rigsAtFirst() {
        ChuteLoft loft = Edges.told(8, 8);
        for (int i = 0; i < 8; i++) {
            Checks.same("neat of rig " + i, loft.ofRig(i, 2), 0);
            Checks.same("packed of rig " + i, loft.ofRig(i, 3), 0);
            Checks.same("who has rig " + i, loft.ofRig(i, 4), -1);
            Checks.same("wear of rig " + i, loft.wear(i), 0.0);
        }
    }

    // ---- Promise 4

    /** "Returns who had it (NONE)": NONE, the smallest and the greatest number. */
    private static void whoIsLent() {
        ChuteLoft loft = Edges.told(8, 8);
        Checks.same("nobody had 7", loft.lend(7, 0), -1);
        Checks.same("0 had it", loft.lend(7, 7), 0);
        Checks.same("7 had it", loft.lend(7, 0), 7);
        Checks.same("nobody had 0", loft.lend(0, 7), -1);
    }

    /** "To LEND a RIG to a JUMPER: nobody else has it then". */
    private static void nobodyElseHasItThen() {
        ChuteLoft loft = Edges.told(8, 8);
        loft.lend(3, 0);
        loft.lend(3, 7);
        for (int i = 0; i < 8; i++) {
            Checks.same("the rig of " + i, loft.ofJumper(i, 2), i == 7 ? 3 : -1);
        }
        Checks.same("who has it", loft.ofRig(3, 4), 7);
    }

    /** "that JUMPER's RIG of before, if another one, is free". */
    private static void theRigOfBeforeIsFree() {
        ChuteLoft loft = Edges.told(2, 2);
        loft.lend(0, 0);
        loft.lend(1, 1);
        loft.pack(0, 0);
        Checks.same("1 had it", loft.lend(1, 0), 1);
        Checks.same("who has the one of before", loft.ofRig(0, 4), -1);
        Checks.same("who has the one lent", loft.ofRig(1, 4), 0);
        Checks.same("the rig of who had it", loft.ofJumper(1, 2), -1);
        Checks.same("it is packed still", loft.ofRig(0, 3), 1);
        Checks.same("as neat as before", loft.ofRig(0, 2), 9);
        Checks.same("nobody had the free one", loft.lend(0, 1), -1);
    }

    /** "if another one": who has it already has it still. */
    private static void lentToWhoHasIt() {
        ChuteLoft loft = Edges.told(1, 1);
        loft.lend(0, 0);
        Checks.same("that one had it", loft.lend(0, 0), 0);
        Checks.same("and has it", loft.ofJumper(0, 2), 0);
        Checks.same("who has it", loft.ofRig(0, 4), 0);
    }

    /** "Throws IndexOutOfBoundsException if there is no such RIG, or JUMPER". */
    private static void noSuchRigOrJumper() {
        Edges.indices(() -> Edges.told(1, 8), "lend rig", 0, 7, (x, v) -> x.lend(v, 0));
        Edges.indices(() -> Edges.told(8, 1), "lend to", 0, 7, (x, v) -> x.lend(0, v));
        Edges.indices(() -> Edges.told(3, 2), "lend one of two", 0, 1, (x, v) -> x.lend(v, 2));
        Edges.indices(() -> Edges.told(2, 3), "lend to one of two", 0, 1, (x, v) -> x.lend(2, v));
        Edges.index(() -> Edges.told(1, 0), "lend without rigs", x -> x.lend(0, 0));
        Edges.index(() -> Edges.told(0, 1), "lend without jumpers", x -> x.lend(0, 0));
    }

    /** "Throws IllegalStateException if that JUMPER .. is aboard": with a free RIG, one's own, and another one's. */
    private static void lentToWhoIsAboard() {
        Edges.state(EdgesOfLoftTest::oneOfTwoAboard, "a free rig", x -> x.lend(2, 0));
        Edges.state(EdgesOfLoftTest::oneOfTwoAboard, "one's own rig", x -> x.lend(0, 0));
        Edges.state(EdgesOfLoftTest::oneOfTwoAboard, "another one's rig", x -> x.lend(1, 0));
    }

    /** "or who has it, is aboard". */
    private static void lentFromWhoIsAboard() {
        Edges.state(EdgesOfLoftTest::oneOfTwoAboard, "from aboard", x -> x.lend(0, 1));
        Edges.state(() -> Edges.aboard(2, 2, 3), "from aboard to aboard", x -> x.lend(0, 1));
        Edges.state(() -> Edges.aboard(8, 6, 3), "from the last place aboard", x -> x.lend(5, 7));
        Edges.state(() -> Edges.aboard(8, 6, 3), "to the last place aboard", x -> x.lend(7, 5));
    }

    /** "If several exceptions apply, the one that is named first is thrown." */
    private static void whoIsNobodyAheadOfWhoIsAboard() {
        for (int wrong : new int[] {-1, 3, Edges.LEAST, Edges.MOST}) {
            Edges.index(EdgesOfLoftTest::oneOfTwoAboard, "rig " + wrong + " to aboard", x -> x.lend(wrong, 0));
        }
        for (int wrong : new int[] {-1, 2, Edges.LEAST, Edges.MOST}) {
            Edges.index(EdgesOfLoftTest::oneOfTwoAboard, "from aboard to " + wrong, x -> x.lend(0, wrong));
        }
    }

    /** Nobody else aboard hinders it, nor one who has left, nor a plane that is HELD. */
    private static void lentAmongThoseOnTheGround() {
        ChuteLoft loft = oneOfTwoAboard();
        Checks.same("on the ground", loft.lend(2, 1), -1);
        loft.empty();
        Checks.same("to who has left", loft.lend(1, 0), -1);
        Checks.same("what that one had", loft.lend(0, 1), -1);
        loft.hold(true);
        Checks.same("while held", loft.lend(0, 0), 1);
    }

    /** The JUMPERS 0 and 1 with RIGS of the same number, and a RIG 2 that nobody has; 0 is aboard. */
    private static ChuteLoft oneOfTwoAboard() {
        ChuteLoft loft = Edges.aboard(2, 1, 3);
        loft.rig(250, 60);
        return loft;
    }

    // ---- Promise 5

    /** "Throws IndexOutOfBoundsException if there is no such RIG, or JUMPER". */
    private static void whoPacks() {
        Edges.indices(() -> Edges.told(1, 8), "pack rig", 0, 7, (x, v) -> x.pack(v, 0));
        Edges.indices(() -> Edges.told(8, 1), "pack by", 0, 7, (x, v) -> x.pack(0, v));
        Edges.indices(() -> Edges.told(3, 2), "pack one of two", 0, 1, (x, v) -> x.pack(v, 2));
        Edges.indices(() -> Edges.told(2, 3), "pack by one of two", 0, 1, (x, v) -> x.pack(2, v));
        Edges.index(() -> Edges.told(1, 0), "pack without rigs", x -> x.pack(0, 0));
        Edges.index(() -> Edges.told(0, 1), "pack without jumpers", x -> x.pack(0, 0));
    }

    /** "NEAT is 9 less how many that JUMPER has PACKED on this DAY ahead of it". */
    private static void neatLessHowManyArePacked() {
        ChuteLoft loft = Edges.told(1, 8);
        for (int i = 0; i < 8; i++) {
            Checks.same("neat of " + i, loft.pack(i, 0), 9 - i);
            Checks.same("as it is asked", loft.ofRig(i, 2), 9 - i);
            Checks.same("it is packed", loft.ofRig(i, 3), 1);
        }
        Checks.same("what is packed stays as neat", loft.ofRig(0, 2), 9);
    }

    /** "(0 at least)": the tenth RIG of a DAY is the first one with 0, and the eleventh and twelfth have 0 too. */
    private static void neatIsZeroAtLeast() {
        ChuteLoft loft = Edges.told(2, 1);
        loft.lend(0, 0);
        for (int i = 0; i < 12; i++) {
            Checks.same("neat of the rig packed as number " + i, loft.pack(0, 1), Math.max(0, 9 - i));
            Checks.same("packed ever on this day", loft.ofJumper(1, 6), i + 1);
            loft.renew(0);
            loft.board(0, 0, 4);
            loft.fly(0, 1);
        }
        Checks.same("neat behind the flight", loft.ofRig(0, 2), 0);
    }

    /** "how many that JUMPER has PACKED": of anyone's RIGS, and none that others PACKED. */
    private static void packedByThatJumperAlone() {
        ChuteLoft loft = Edges.told(3, 4);
        loft.lend(0, 0);
        loft.lend(1, 1);
        Checks.same("another one's", loft.pack(0, 1), 9);
        Checks.same("one's own", loft.pack(1, 1), 8);
        Checks.same("by another one", loft.pack(2, 0), 9);
        Checks.same("nobody's", loft.pack(3, 1), 7);
        int[] due = {1, 3, 0};
        for (int i = 0; i < 3; i++) {
            Checks.same("what " + i + " has packed", loft.ofJumper(i, 6), due[i]);
        }
    }

    /** "it must not be PACKED"; "Throws IllegalStateException if it is PACKED": by whomever, lent on, aboard. */
    private static void packedIsRefused() {
        Edges.state(() -> PlaneTest.ready(2, 3), "by the same hands", x -> x.pack(0, 0));
        Edges.state(() -> PlaneTest.ready(2, 3), "by other hands", x -> x.pack(0, 1));
        Edges.state(() -> Edges.aboard(2, 1, 3), "aboard", x -> x.pack(0, 1));
        Edges.state(() -> Edges.onDay(PlaneTest.ready(2, 3), 1), "on another day", x -> x.pack(0, 0));
        ChuteLoft lentOn = PlaneTest.ready(2, 3);
        lentOn.lend(0, 1);
        Checks.same("lent on", Checks.outcome(() -> lentOn.pack(0, 1)), "throws.IllegalStateException");
        ChuteLoft left = Edges.aboard(1, 1, 3);
        left.empty();
        Checks.same("not flown", Checks.outcome(() -> left.pack(0, 0)), "throws.IllegalStateException");
        left.board(0, 0, 4);
        left.fly(0, 1);
        Checks.same("flown", left.pack(0, 0), 8);
    }

    /** "If several exceptions apply, the one that is named first is thrown." */
    private static void nobodyAheadOfPacked() {
        for (int wrong : new int[] {-1, 2, Edges.LEAST, Edges.MOST}) {
            Edges.index(() -> PlaneTest.ready(2, 3), "a packed one by " + wrong, x -> x.pack(0, wrong));
        }
    }

    /** "A method that throws an exception changes nothing." */
    private static void refusedPackingDoesNotTire() {
        ChuteLoft loft = Edges.told(1, 2);
        loft.pack(0, 0);
        Checks.outcome(() -> loft.pack(0, 0));
        Checks.outcome(() -> loft.pack(2, 0));
        Checks.same("neat of the next one", loft.pack(1, 0), 8);
    }

    // ---- Promise 6

    /** "Throws IndexOutOfBoundsException if there is no such RIG". */
    private static void whatIsRenewed() {
        Edges.indices(() -> Edges.told(0, 8), "renew", 0, 7, (x, v) -> x.renew(v));
        Edges.indices(() -> Edges.told(8, 1), "renew the only one", 0, 0, (x, v) -> x.renew(v));
    }

    /** "A RESERVE that is renewed is DUE 60 DAYS from now on": on the first DAY, the last one, and long overdue. */
    private static void dueSixtyDaysFromNowOn() {
        for (int day : new int[] {0, 1, 31, 500}) {
            ChuteLoft loft = Edges.onDay(Edges.told(1, 2), day);
            Checks.same("renewed on day " + day, loft.renew(0), day + 60);
            Checks.same("as it is asked", loft.ofRig(0, 1), day + 60);
            Checks.same("another one", loft.ofRig(1, 1), 30);
            Checks.same("renewed again on day " + day, loft.renew(0), day + 60);
        }
    }

    // ---- Promise 7

    /** "Throws IllegalArgumentException if days is not 1 to 90". */
    private static void daysThatGoBy() {
        Edges.arguments(() -> Edges.told(1, 1), "pass", 1, 90, (x, v) -> x.pass(v));
        for (int days : new int[] {1, 90}) {
            ChuteLoft loft = new ChuteLoft();
            Checks.same("the day then", loft.pass(days), days);
            Checks.same("and once more", loft.pass(days), 2 * days);
            Checks.same("as it is asked", loft.many(0), 2 * days);
        }
    }

    /** "A DAY (0 at first, 500 at most)"; "Throws IllegalStateException if DAY would be above 500". */
    private static void theLastDay() {
        Checks.same("90 from 410", Edges.onDay(new ChuteLoft(), 410).pass(90), 500);
        Checks.same("1 from 499", Edges.onDay(new ChuteLoft(), 499).pass(1), 500);
        Checks.same("89 from 411", Edges.onDay(new ChuteLoft(), 411).pass(89), 500);
        Edges.state(() -> Edges.onDay(Edges.told(1, 1), 411), "90 from 411", x -> x.pass(90));
        Edges.state(() -> Edges.onDay(Edges.told(1, 1), 499), "2 from 499", x -> x.pass(2));
        Edges.state(() -> Edges.onDay(Edges.told(1, 1), 500), "1 from 500", x -> x.pass(1));
        Edges.state(() -> Edges.onDay(Edges.told(1, 1), 500), "90 from 500", x -> x.pass(90));
    }

    /** "If several exceptions apply, the one that is named first is thrown." */
    private static void wrongDaysAheadOfTheLastDay() {
        for (int wrong : new int[] {0, -1, 91, Edges.LEAST, Edges.MOST}) {
            Edges.argument(() -> Edges.onDay(Edges.told(1, 1), 500), wrong + " from 500", x -> x.pass(wrong));
            Edges.argument(() -> Edges.aboard(1, 1, 3), wrong + " while one is aboard", x -> x.pass(wrong));
        }
    }

    /** "or anyone is aboard": one is enough; a plane that is HELD, and empty, is not. */
    private static void nobodyWaitsAboard() {
        Edges.state(() -> Edges.aboard(1, 1, 3), "one aboard", x -> x.pass(1));
        Edges.state(() -> Edges.aboard(6, 6, 3), "six aboard", x -> x.pass(90));
        ChuteLoft loft = Edges.held(Edges.aboard(1, 1, 3));
        loft.empty();
        Checks.same("a held plane, empty again", loft.pass(1), 1);
        loft.hold(false);
        loft.board(0, 0, 4);
        loft.fly(0, 1);
        Checks.same("behind a flight", loft.pass(1), 2);
    }

    /** "A DAY goes by: nobody has PACKED on it yet": not the first one, nor the last one; what is PACKED stays so. */
    private static void nobodyHasPackedOnANewDay() {
        ChuteLoft loft = Edges.told(8, 8);
        for (int i = 0; i < 8; i++) {
            loft.pack(i, i < 4 ? 0 : 7);
        }
        Checks.same("what 7 has packed", loft.ofJumper(7, 6), 4);
        loft.pass(1);
        for (int i = 0; i < 8; i++) {
            Checks.same("what " + i + " has packed on a new day", loft.ofJumper(i, 6), 0);
            Checks.same("packed still", loft.ofRig(i, 3), 1);
            Checks.same("neat still", loft.ofRig(i, 2), i < 4 ? 9 - i : 13 - i);
        }
    }

    // ---- Promise 8

    /** "Throws IndexOutOfBoundsException if layer is not 0 to 9". */
    private static void layersOfWinds() {
        Edges.indices(ChuteLoft::new, "wind of layer", 0, 9, (x, v) -> x.wind(v, 1, 2));
        ChuteLoft loft = new ChuteLoft();
        loft.wind(0, 1, 2);
        loft.wind(9, 3, 4);
        for (int layer = 0; layer <= 9; layer++) {
            Checks.same("wx of " + layer, loft.ofWind(layer, false), layer == 0 ? 1 : layer == 9 ? 3 : 0);
            Checks.same("wy of " + layer, loft.ofWind(layer, true), layer == 0 ? 2 : layer == 9 ? 4 : 0);
        }
    }

    /** "Throws IllegalArgumentException if wx or wy is not -20 to 20". */
    private static void windsOfEachSign() {
        Edges.arguments(ChuteLoft::new, "wx", -20, 20, (x, v) -> x.wind(0, v, 1));
        Edges.arguments(ChuteLoft::new, "wy", -20, 20, (x, v) -> x.wind(0, 1, v));
        Edges.arguments(ChuteLoft::new, "wx of 9", -20, 20, (x, v) -> x.wind(9, v, 1));
        Edges.arguments(ChuteLoft::new, "wy of 9", -20, 20, (x, v) -> x.wind(9, 1, v));
        for (int layer = 0; layer <= 9; layer += 9) {
            ChuteLoft loft = new ChuteLoft();
            loft.wind(layer, 20, -20);
            Checks.same("the greatest wx", loft.ofWind(layer, false), 20);
            Checks.same("the smallest wy", loft.ofWind(layer, true), -20);
            loft.wind(layer, -20, 20);
            Checks.same("the smallest wx", loft.ofWind(layer, false), -20);
            Checks.same("the greatest wy", loft.ofWind(layer, true), 20);
        }
    }

    /** "If several exceptions apply, the one that is named first is thrown." */
    private static void noSuchLayerAheadOfAWrongWind() {
        for (int layer : new int[] {-1, 10, Edges.LEAST, Edges.MOST}) {
            Edges.index(ChuteLoft::new, "wx 21 of layer " + layer, x -> x.wind(layer, 21, 0));
            Edges.index(ChuteLoft::new, "wy -21 of layer " + layer, x -> x.wind(layer, 0, -21));
        }
    }

    /** "The GROUND wind is that of the LAYER 0"; "0 at first". */
    private static void groundIsThatOfTheLowestLayer() {
        ChuteLoft loft = new ChuteLoft();
        for (int layer = 9; layer >= 1; layer--) {
            Checks.same("ground behind the wind of " + layer, loft.wind(layer, 20, 20), 0);
        }
        Checks.same("ground behind the wind of 0", loft.wind(0, 1, 0), 1);
        Checks.same("ground behind another wind of 1", loft.wind(1, -20, 0), 1);
        Checks.same("as it is asked", loft.many(3), 1);
    }

    /** "WX and WY, without their signs, together": 0 to 40. */
    private static void groundWithoutSigns() {
        int[][] winds = {{0, 0, 0}, {-1, 0, 1}, {0, -1, 1}, {-1, 1, 2}, {1, -1, 2}, {20, 20, 40}, {-20, -20, 40},
            {20, -20, 40}, {-20, 20, 40}};
        ChuteLoft loft = new ChuteLoft();
        for (int[] wind : winds) {
            String what = "ground of " + wind[0] + ", " + wind[1];
            Checks.same(what, loft.wind(0, wind[0], wind[1]), wind[2]);
            Checks.same(what + ", asked", loft.many(3), wind[2]);
        }
    }
}
