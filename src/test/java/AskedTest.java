/** Promises 14 to 22: what is asked. */
final class AskedTest {
    public static void main(String[] args) {
        jumpersAreAsked();
        placesOfJumpers();
        loadings();
        landings();
        refusals();
        rigsAreAsked();
        wearIsAsked();
        windsAreAsked();
        countsAreAsked();
        theOrder();
        theOrderBySmallerNumber();
        Checks.finish();
    }

    private static void jumpersAreAsked() {
        ChuteLoft loft = PlaneTest.ready(2, 2);
        loft.jumper(51, 1);
        loft.board(1, 0, 4);
        loft.fly(0, 1);
        loft.pass(3);
        loft.pack(1, 1);
        loft.board(1, 0, 4);
        int[] due = {80, 2, 1, 0, 1, 3, 1, 0, 0};
        for (int what = 0; what <= 8; what++) {
            Checks.same("ofJumper(1, " + what + ")", loft.ofJumper(1, what), due[what]);
        }
        Checks.same("no rig", loft.ofJumper(2, 2), -1);
        Checks.same("not aboard", loft.ofJumper(0, 7), -1);
        Checks.throwsArgument(loft, "what -1", () -> loft.ofJumper(0, -1));
        Checks.throwsArgument(loft, "what 9", () -> loft.ofJumper(0, 9));
        Checks.throwsIndex(loft, "jumper 3", () -> loft.ofJumper(3, 0));
        Checks.throwsIndex(loft, "jumper -1", () -> loft.ofJumper(-1, 0));
        Checks.throwsIndex(loft, "jumper 3, what 9", () -> loft.ofJumper(3, 9));
    }

    private static void placesOfJumpers() {
        ChuteLoft loft = PlaneTest.ready(3, 3);
        loft.board(2, 0, 4);
        Checks.same("alone", loft.ofJumper(2, 7), 0);
        loft.board(0, 0, 4);
        Checks.same("behind another one", loft.ofJumper(2, 7), 1);
        Checks.same("ahead", loft.ofJumper(0, 7), 0);
        loft.fly(0, 1);
        Checks.same("behind the flight", loft.ofJumper(2, 7), -1);
    }

    private static void loadings() {
        ChuteLoft loft = PlaneTest.ready(1, 3);
        loft.jumper(70, 3);
        Checks.same("with a rig", loft.loading(0), 4.0);
        Checks.same("without one", loft.loading(1), 0.0);
        loft.rig(300, 9);
        loft.lend(1, 1);
        Checks.same("as a float", loft.loading(1), (double) (70 * 10f / 300));
        loft.lend(0, 1);
        Checks.same("with another one", loft.loading(1), 3.5);
        Checks.same("with none any more", loft.loading(0), 0.0);
        Checks.throwsIndex(loft, "loading of 2", () -> loft.loading(2));
        Checks.throwsIndex(loft, "loading of -1", () -> loft.loading(-1));
    }

    private static void landings() {
        ChuteLoft loft = PlaneTest.ready(2, 3);
        loft.wind(9, 0, 20);
        Checks.same("x ahead of a jump", loft.landed(0, false), 0.0);
        Checks.same("y ahead of a jump", loft.landed(0, true), 0.0);
        // Flat to 2: y is 20 as one comes out of LAYER 9; 9 TICKS of 8 bring x from 200 to 128, and y stays.
        loft.board(0, 0, 2);
        loft.fly(200, 1);
        Checks.same("x", loft.landed(0, false), 128.0);
        Checks.same("y", loft.landed(0, true), 20.0);
        Checks.same("x of another one", loft.landed(1, false), 0.0);
        loft.pack(0, 0);
        loft.board(0, 0, 2);
        Checks.same("x while aboard", loft.landed(0, false), 128.0);
        loft.fly(-200, 1);
        Checks.same("x of the last one", loft.landed(0, false), -128.0);
        Checks.throwsIndex(loft, "where 2 landed", () -> loft.landed(2, false));
        Checks.throwsIndex(loft, "where -1 landed", () -> loft.landed(-1, true));
    }

    private static void refusals() {
        ChuteLoft loft = new ChuteLoft();
        loft.jumper(80, 1);
        Checks.same("without a rig", loft.refuses(0), 1);
        loft.rig(100, 0);
        loft.lend(0, 0);
        Checks.same("not packed", loft.refuses(0), 2);
        loft.pass(1);
        loft.pack(0, 0);
        Checks.same("due", loft.refuses(0), 3);
        loft.renew(0);
        loft.wind(0, 10, -5);
        Checks.same("wind", loft.refuses(0), 4);
        loft.wind(0, 10, -4);
        Checks.same("loading", loft.refuses(0), 5);
        loft.rig(200, 10);
        loft.lend(1, 0);
        loft.pack(1, 0);
        Checks.same("nothing", loft.refuses(0), 0);
        loft.hold(true);
        Checks.same("nothing, though held", loft.refuses(0), 0);
        loft.hold(false);
        loft.board(0, 0, 4);
        Checks.same("aboard", loft.refuses(0), 6);
        Checks.throwsIndex(loft, "refuses 1", () -> loft.refuses(1));
        Checks.throwsIndex(loft, "refuses -1", () -> loft.refuses(-1));
    }

    private static void rigsAreAsked() {
        ChuteLoft loft = PlaneTest.ready(1, 3);
        loft.rig(123, 45);
        loft.pack(1, 0);
        int[] due = {123, 45, 8, 1, -1};
        for (int what = 0; what <= 4; what++) {
            Checks.same("ofRig(1, " + what + ")", loft.ofRig(1, what), due[what]);
        }
        Checks.same("who has 0", loft.ofRig(0, 4), 0);
        Checks.throwsArgument(loft, "what -1", () -> loft.ofRig(0, -1));
        Checks.throwsArgument(loft, "what 5", () -> loft.ofRig(0, 5));
        Checks.throwsIndex(loft, "rig 2", () -> loft.ofRig(2, 0));
        Checks.throwsIndex(loft, "rig -1", () -> loft.ofRig(-1, 0));
        Checks.throwsIndex(loft, "rig 2, what 5", () -> loft.ofRig(2, 5));
    }

    private static void wearIsAsked() {
        ChuteLoft loft = PlaneTest.ready(2, 3);
        loft.board(1, 0, 4);
        loft.fly(0, 1);
        Checks.same("wear of 0", loft.wear(0), 0.0);
        Checks.same("wear of 1", loft.wear(1), 0.0625);
        Checks.throwsIndex(loft, "wear of 2", () -> loft.wear(2));
        Checks.throwsIndex(loft, "wear of -1", () -> loft.wear(-1));
    }

    private static void windsAreAsked() {
        ChuteLoft loft = new ChuteLoft();
        for (int layer = 0; layer <= 9; layer++) {
            loft.wind(layer, layer, -2 * layer);
        }
        for (int layer = 0; layer <= 9; layer++) {
            Checks.same("wx " + layer, loft.ofWind(layer, false), layer);
            Checks.same("wy " + layer, loft.ofWind(layer, true), -2 * layer);
        }
        Checks.throwsIndex(loft, "layer 10", () -> loft.ofWind(10, false));
        Checks.throwsIndex(loft, "layer -1", () -> loft.ofWind(-1, true));
    }

    private static void countsAreAsked() {
        ChuteLoft loft = PlaneTest.ready(2, 0);
        loft.rig(100, 0);
        loft.pass(2);
        loft.wind(0, 3, -4);
        loft.board(0, 0, 4);
        loft.board(1, 0, 4);
        loft.fly(190, 9);
        loft.pack(0, 0);
        loft.board(0, 0, 4);
        loft.hold(true);
        loft.gong();
        int[] due = {2, 2, 3, 7, 1, 29, 1, 2, 0, 2, 0, 1, 1};
        for (int what = 0; what <= 12; what++) {
            Checks.same("many(" + what + ")", loft.many(what), due[what]);
        }
        Checks.throwsArgument(loft, "many -1", () -> loft.many(-1));
        Checks.throwsArgument(loft, "many 13", () -> loft.many(13));
    }

    /** LICENCES and LOADINGS: 0 (0, 4), 1 (3, 4), 2 (1, 4), 3 (2, 8), 4 (3, 8), 5 (0, 3.5). */
    private static void theOrder() {
        ChuteLoft loft = new ChuteLoft();
        int[] weights = {80, 80, 80, 80, 80, 70};
        int[] licences = {0, 3, 1, 2, 3, 0};
        int[] areas = {200, 200, 200, 100, 100, 200};
        int[] styles = {0, 1, 0, 0, 1, 1};
        for (int i = 0; i < 6; i++) {
            loft.jumper(weights[i], licences[i]);
            loft.rig(areas[i], 60);
            loft.lend(i, i);
            loft.pack(i, i);
        }
        for (int i = 5; i >= 0; i--) {
            loft.board(i, styles[i], 4);
        }
        int[] due = {3, 2, 4, 1, 0, 5};
        for (int place = 0; place < 6; place++) {
            Checks.same("place " + place, loft.order(place), due[place]);
            Checks.same("the place of " + due[place], loft.ofJumper(due[place], 7), place);
        }
        Checks.throwsIndex(loft, "place 6", () -> loft.order(6));
        Checks.throwsIndex(loft, "place -1", () -> loft.order(-1));
        loft.empty();
        Checks.throwsIndex(loft, "a place in an empty plane", () -> loft.order(0));
    }

    private static void theOrderBySmallerNumber() {
        for (int licence = 0; licence <= 2; licence += 2) {
            ChuteLoft loft = PlaneTest.ready(6, licence);
            int[] boarding = {3, 5, 0, 4, 1};
            for (int jumper : boarding) {
                loft.board(jumper, 1, 4);
            }
            int[] due = {0, 1, 3, 4, 5};
            for (int place = 0; place < 5; place++) {
                Checks.same("place " + place + " with licence " + licence, loft.order(place), due[place]);
            }
            Checks.throwsIndex(loft, "place 5", () -> loft.order(5));
        }
    }
}
