/**
 * Where the document says double or float, and less than a millionth decides: the answers that come only if just that
 * is reckoned in it.
 */
final class DoublesTest {
    public static void main(String[] args) {
        ticksAreOfAFloat();
        farIsADouble();
        offIsOfADouble();
        steeredByDoubles();
        apartInXByDoubles();
        apartInYByDoubles();
        Checks.finish();
    }

    /**
     * "1 and (8f / LOADING, cut to a whole number) TICKS": a LOADING of 2.6666667 is more than 8 / 3, but 8f / LOADING
     * is 3f (as doubles it would be 2.99999..): steep to 2 seven TICKS of falling, three times four.
     */
    private static void ticksAreOfAFloat() {
        int[][] alike = {{52, 195}, {56, 210}, {60, 225}, {64, 240}, {68, 255}, {72, 270}, {76, 285}, {80, 300}};
        for (int[] row : alike) {
            Checks.same("ticks of " + row[0] + " on " + row[1], Edges.one(row[0], 3, row[1]).takes(0, 1, 2), 7 + 12);
            Checks.same("ticks of one more", Edges.one(row[0] + 1, 3, row[1]).takes(0, 1, 2), 7 + 9);
        }
    }

    /** One who flies alone, steep to 2, without a wind; from either side. */
    private static ChuteLoft flown(int weight, int area, int spot, int points) {
        ChuteLoft loft = Edges.one(weight, 3, area);
        loft.board(0, 1, 2);
        Checks.same("points from " + spot, loft.fly(spot, 1), points);
        return loft;
    }

    /**
     * "FAR (double) ..: 3 with a FAR of 5.0 or less, 1 with one of 20.0 or less": FORWARD of 62 on 180 is
     * 7.44444441795.., nine times; that of 50 on 120 is 8.16666650772.., six times.
     */
    private static void farIsADouble() {
        for (int side = -1; side <= 1; side += 2) {
            ChuteLoft five = flown(62, 180, 72 * side, 1);
            Checks.same("more than 5.0", five.landed(0, false), 5.000000238418579 * side);
            flown(62, 180, 71 * side, 3);
            ChuteLoft twenty = flown(50, 120, 69 * side, 0);
            Checks.same("more than 20.0", twenty.landed(0, false), 20.000000953674316 * side);
            flown(50, 120, 68 * side, 1);
        }
    }

    /** "with one above 100.0 one is OFF". */
    private static void offIsOfADouble() {
        for (int side = -1; side <= 1; side += 2) {
            ChuteLoft off = flown(50, 120, 149 * side, 0);
            Checks.same("more than 100.0", off.landed(0, false), 100.00000095367432 * side);
            Checks.same("off", off.many(9), 1);
            Checks.same("not off", flown(50, 120, 148 * side, 0).many(9), 0);
        }
    }

    /**
     * "with x at least as far from 0.0 as y is": FORWARD of 119 on 245 is 8.85714292526.., so that x, 78 as one OPENS,
     * is 15.99999952.. behind seven TICKS, and y, -16.0 all the time, is farther.
     */
    private static void steeredByDoubles() {
        for (int side = -1; side <= 1; side += 2) {
            ChuteLoft loft = Edges.one(119, 3, 245);
            loft.wind(9, 20 * side, 0);
            loft.wind(5, 0, -16);
            Checks.same("x", loft.wouldLand(0, 0, 3, 58 * side, false), 15.999999523162842 * side);
            Checks.same("y", loft.wouldLand(0, 0, 3, 58 * side, true), -7.142857074737549);
        }
    }

    private static void meets(ChuteLoft loft, String what, int gap, int spot, int due) {
        Checks.same("would meet, " + what, loft.wouldMeet(gap, spot), due);
        loft.fly(spot, gap);
        Checks.same("met, " + what, loft.many(10), due);
    }

    /**
     * "neither x nor y are 10.0 or more apart": FORWARD of 55 on 140 is 7.92857146263... The flat one is at 83 as it
     * OPENS, and at 0.0 eleven TICKS later; the steep one, a TICK ahead, is at 121, and fourteen TICKS later, the last
     * but one, at 9.99999952...
     */
    private static void apartInXByDoubles() {
        for (int spot = 79; spot <= 80; spot++) {
            ChuteLoft loft = Edges.one(55, 3, 140);
            Edges.add(loft, 55, 3, 140);
            loft.wind(9, 20, 0);
            loft.wind(5, -16, 0);
            loft.board(0, 0, 4);
            loft.board(1, 1, 4);
            meets(loft, "from " + spot, 4, spot, spot == 79 ? 1 : 0);
        }
    }

    /**
     * The same of y: FORWARD of 128 on 240 is 9.33333349.., two TICKS a LAYER, and both come to the LAYER 3 behind the
     * same TICK. The WY of the LAYER 2 takes both down; in the LAYER 0 the flat one is at (3.66.., -9.99999952..), the
     * steep one at (0.0, 0.0), and with the next TICK both have LANDED.
     */
    private static void apartInYByDoubles() {
        for (int wy = -20; wy <= -19; wy++) {
            ChuteLoft loft = Edges.one(128, 3, 240);
            Edges.add(loft, 128, 3, 240);
            loft.wind(9, 20, 0);
            loft.wind(2, 0, wy);
            loft.board(0, 1, 6);
            loft.board(1, 0, 3);
            meets(loft, "a wy of " + wy, 3, 21, wy == -19 ? 1 : 0);
        }
    }
}
