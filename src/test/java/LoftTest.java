/** Promises 1 to 8: a new object, jumpers and rigs. */
final class LoftTest {
    public static void main(String[] args) {
        aNewLoftIsEmpty();
        jumpersAreToldUpToEight();
        jumpersAreToldWithinBounds();
        rigsAreToldUpToEight();
        rigsAreToldWithinBounds();
        rigsAreLent();
        rigsAreNotLentToOrFromWhoIsAboard();
        packingTires();
        packingIsRefused();
        reservesAreRenewed();
        daysGoBy();
        daysAreRefused();
        windsAreTold();
        windsAreRefused();
        Checks.finish();
    }

    private static void aNewLoftIsEmpty() {
        ChuteLoft loft = new ChuteLoft();
        for (int what = 0; what <= 12; what++) {
            Checks.same("many(" + what + ") of a new loft", loft.many(what), what == 5 ? 3 : 0);
        }
        for (int layer = 0; layer <= 9; layer++) {
            Checks.same("a new loft's wx " + layer, loft.ofWind(layer, false), 0);
            Checks.same("a new loft's wy " + layer, loft.ofWind(layer, true), 0);
        }
        Checks.throwsIndex(loft, "jumper 0 of a new loft", () -> loft.ofJumper(0, 0));
        Checks.throwsIndex(loft, "rig 0 of a new loft", () -> loft.ofRig(0, 0));
        Checks.throwsIndex(loft, "place 0 of a new loft", () -> loft.order(0));
        Checks.same("a new loft is not held", loft.hold(false), false);
    }

    private static void jumpersAreToldUpToEight() {
        ChuteLoft loft = new ChuteLoft();
        loft.pass(7);
        for (int i = 0; i < 8; i++) {
            Checks.same("jumper " + i, loft.jumper(60 + i, i % 4), i);
        }
        Checks.same("jumpers", loft.many(1), 8);
        int[] due = {67, 3, -1, 7, 0, 0, 0, -1, 0};
        for (int what = 0; what <= 8; what++) {
            Checks.same("ofJumper(7, " + what + ")", loft.ofJumper(7, what), due[what]);
        }
        Checks.same("weight of 0", loft.ofJumper(0, 0), 60);
        Checks.same("licence of 0", loft.ofJumper(0, 1), 0);
        Checks.same("x of a jumper just told", loft.landed(7, false), 0.0);
        Checks.throwsState(loft, "a ninth jumper", () -> loft.jumper(60, 0));
        Checks.throwsArgument(loft, "a ninth jumper with a wrong weight", () -> loft.jumper(49, 0));
        Checks.throwsArgument(loft, "a ninth jumper with a wrong licence", () -> loft.jumper(60, 4));
    }

    private static void jumpersAreToldWithinBounds() {
        ChuteLoft loft = new ChuteLoft();
        Checks.throwsArgument(loft, "weight 49", () -> loft.jumper(49, 0));
        Checks.throwsArgument(loft, "weight 131", () -> loft.jumper(131, 0));
        Checks.throwsArgument(loft, "a huge weight", () -> loft.jumper(Integer.MAX_VALUE, 0));
        Checks.throwsArgument(loft, "licence -1", () -> loft.jumper(70, -1));
        Checks.throwsArgument(loft, "licence 4", () -> loft.jumper(70, 4));
        Checks.same("weight 50, licence 0", loft.jumper(50, 0), 0);
        Checks.same("weight 130, licence 3", loft.jumper(130, 3), 1);
    }

    private static void rigsAreToldUpToEight() {
        ChuteLoft loft = new ChuteLoft();
        loft.pass(9);
        for (int i = 0; i < 8; i++) {
            Checks.same("rig " + i, loft.rig(100 + i, 5 * i), i);
        }
        Checks.same("rigs", loft.many(2), 8);
        int[] due = {107, 44, 0, 0, -1};
        for (int what = 0; what <= 4; what++) {
            Checks.same("ofRig(7, " + what + ")", loft.ofRig(7, what), due[what]);
        }
        Checks.same("wear of a new rig", loft.wear(7), 0.0);
        Checks.throwsState(loft, "a ninth rig", () -> loft.rig(100, 0));
        Checks.throwsArgument(loft, "a ninth rig with a wrong area", () -> loft.rig(79, 0));
        Checks.throwsArgument(loft, "a ninth rig with wrong days", () -> loft.rig(100, 61));
    }

    private static void rigsAreToldWithinBounds() {
        ChuteLoft loft = new ChuteLoft();
        Checks.throwsArgument(loft, "area 79", () -> loft.rig(79, 0));
        Checks.throwsArgument(loft, "area 301", () -> loft.rig(301, 0));
        Checks.throwsArgument(loft, "days -1", () -> loft.rig(100, -1));
        Checks.throwsArgument(loft, "days 61", () -> loft.rig(100, 61));
        Checks.same("area 80, days 0", loft.rig(80, 0), 0);
        Checks.same("area 300, days 60", loft.rig(300, 60), 1);
        Checks.same("due on the day itself", loft.ofRig(0, 1), 0);
        Checks.same("due in 60 days", loft.ofRig(1, 1), 60);
    }

    private static ChuteLoft threeOfEach() {
        ChuteLoft loft = new ChuteLoft();
        for (int i = 0; i < 3; i++) {
            loft.jumper(80, 3);
            loft.rig(200, 30);
        }
        return loft;
    }

    private static void rigsAreLent() {
        ChuteLoft loft = threeOfEach();
        Checks.same("a free rig", loft.lend(0, 0), -1);
        Checks.same("who has it", loft.ofRig(0, 4), 0);
        Checks.same("what that one has", loft.ofJumper(0, 2), 0);
        Checks.same("a rig to who has it", loft.lend(0, 0), 0);
        Checks.same("who still has it", loft.ofRig(0, 4), 0);
        loft.lend(1, 1);
        Checks.same("another one's rig", loft.lend(1, 0), 1);
        Checks.same("who has it now", loft.ofRig(1, 4), 0);
        Checks.same("who had it has none", loft.ofJumper(1, 2), -1);
        Checks.same("the rig of before is free", loft.ofRig(0, 4), -1);
        Checks.same("a free one again", loft.lend(0, 2), -1);
        Checks.throwsIndex(loft, "lend rig -1", () -> loft.lend(-1, 0));
        Checks.throwsIndex(loft, "lend rig 3", () -> loft.lend(3, 0));
        Checks.throwsIndex(loft, "lend to jumper -1", () -> loft.lend(0, -1));
        Checks.throwsIndex(loft, "lend to jumper 3", () -> loft.lend(0, 3));
    }

    private static void rigsAreNotLentToOrFromWhoIsAboard() {
        ChuteLoft loft = threeOfEach();
        loft.lend(0, 0);
        loft.pack(0, 0);
        loft.lend(1, 1);
        loft.board(0, 0, 4);
        Checks.throwsState(loft, "lend to who is aboard", () -> loft.lend(2, 0));
        Checks.throwsState(loft, "lend from who is aboard", () -> loft.lend(0, 1));
        Checks.throwsState(loft, "lend one's own while aboard", () -> loft.lend(0, 0));
        Checks.throwsIndex(loft, "lend no rig to who is aboard", () -> loft.lend(3, 0));
        Checks.throwsIndex(loft, "lend from aboard to nobody", () -> loft.lend(0, 3));
        Checks.same("lend among those on the ground", loft.lend(1, 2), 1);
        loft.empty();
        Checks.same("lend from who has left", loft.lend(0, 1), 0);
    }

    private static void packingTires() {
        ChuteLoft loft = new ChuteLoft();
        for (int i = 0; i < 8; i++) {
            loft.jumper(80, 3);
            loft.rig(200, 60);
            loft.lend(i, i);
        }
        for (int i = 0; i < 8; i++) {
            Checks.same("neat of rig " + i, loft.pack(i, 0), 9 - i);
            Checks.same("what 0 packed", loft.ofJumper(0, 6), i + 1);
        }
        Checks.same("neat is kept", loft.ofRig(3, 2), 6);
        Checks.same("it is packed", loft.ofRig(3, 3), 1);
        for (int i = 0; i < 6; i++) {
            loft.board(i, 0, 4);
        }
        loft.fly(0, 9);
        Checks.same("not packed behind a flight", loft.ofRig(0, 3), 0);
        Checks.same("neat stays behind a flight", loft.ofRig(0, 2), 9);
        int[] due = {1, 0, 0};
        for (int i = 0; i < 3; i++) {
            Checks.same("neat of tired hands", loft.pack(i, 0), due[i]);
        }
        Checks.same("what 0 packed in all", loft.ofJumper(0, 6), 11);
        Checks.same("by other hands", loft.pack(3, 1), 9);
        loft.pass(1);
        Checks.same("nothing was packed on a new day", loft.ofJumper(0, 6), 0);
        Checks.same("on a new day", loft.pack(4, 0), 9);
        Checks.same("packed stays over night", loft.ofRig(0, 3), 1);
    }

    private static void packingIsRefused() {
        ChuteLoft loft = threeOfEach();
        Checks.same("a rig that nobody has", loft.pack(0, 2), 9);
        Checks.throwsState(loft, "a packed one", () -> loft.pack(0, 2));
        Checks.throwsState(loft, "a packed one by another", () -> loft.pack(0, 1));
        Checks.throwsIndex(loft, "pack rig 3", () -> loft.pack(3, 0));
        Checks.throwsIndex(loft, "pack rig -1", () -> loft.pack(-1, 0));
        Checks.throwsIndex(loft, "pack by jumper 3", () -> loft.pack(1, 3));
        Checks.throwsIndex(loft, "pack by jumper -1", () -> loft.pack(1, -1));
        Checks.throwsIndex(loft, "pack a packed one by nobody", () -> loft.pack(0, 3));
        Checks.same("what 2 packed", loft.ofJumper(2, 6), 1);
    }

    private static void reservesAreRenewed() {
        ChuteLoft loft = threeOfEach();
        Checks.same("renewed on day 0", loft.renew(0), 60);
        loft.pass(45);
        Checks.same("renewed on day 45", loft.renew(1), 105);
        Checks.same("the due day of it", loft.ofRig(1, 1), 105);
        Checks.same("of another one", loft.ofRig(0, 1), 60);
        Checks.throwsIndex(loft, "renew rig 3", () -> loft.renew(3));
        Checks.throwsIndex(loft, "renew rig -1", () -> loft.renew(-1));
        loft.lend(1, 1);
        loft.pack(1, 1);
        loft.board(1, 0, 4);
        Checks.same("renewed aboard", loft.renew(1), 105);
        loft.empty();
        for (int i = 0; i < 5; i++) {
            loft.pass(90);
        }
        Checks.same("renewed late", loft.renew(1), 555);
    }

    private static void daysGoBy() {
        ChuteLoft loft = new ChuteLoft();
        Checks.same("a day", loft.pass(1), 1);
        Checks.same("90 days", loft.pass(90), 91);
        Checks.same("the day", loft.many(0), 91);
        for (int i = 0; i < 4; i++) {
            loft.pass(90);
        }
        Checks.throwsState(loft, "day 501", () -> loft.pass(50));
        Checks.throwsArgument(loft, "far too many days", () -> loft.pass(91));
        Checks.same("day 500", loft.pass(49), 500);
        Checks.throwsState(loft, "a day behind the last one", () -> loft.pass(1));
    }

    private static void daysAreRefused() {
        ChuteLoft loft = threeOfEach();
        Checks.throwsArgument(loft, "0 days", () -> loft.pass(0));
        Checks.throwsArgument(loft, "-1 days", () -> loft.pass(-1));
        Checks.throwsArgument(loft, "91 days", () -> loft.pass(91));
        Checks.throwsArgument(loft, "very many days", () -> loft.pass(Integer.MAX_VALUE));
        loft.lend(0, 0);
        loft.pack(0, 1);
        loft.board(0, 0, 4);
        Checks.throwsState(loft, "pass with one aboard", () -> loft.pass(1));
        Checks.throwsArgument(loft, "pass 0 with one aboard", () -> loft.pass(0));
        loft.empty();
        Checks.same("pass with an empty plane", loft.pass(2), 2);
    }

    private static void windsAreTold() {
        ChuteLoft loft = new ChuteLoft();
        Checks.same("a high wind", loft.wind(9, 20, -20), 0);
        Checks.same("wx 9", loft.ofWind(9, false), 20);
        Checks.same("wy 9", loft.ofWind(9, true), -20);
        Checks.same("a ground wind", loft.wind(0, -7, 5), 12);
        Checks.same("ground stays with others", loft.wind(1, 20, 20), 12);
        Checks.same("ground as it is asked", loft.many(3), 12);
        Checks.same("the most of it", loft.wind(0, -20, -20), 40);
        Checks.same("calm again", loft.wind(0, 0, 0), 0);
        Checks.same("wx 1 stays", loft.ofWind(1, false), 20);
    }

    private static void windsAreRefused() {
        ChuteLoft loft = new ChuteLoft();
        Checks.throwsIndex(loft, "layer -1", () -> loft.wind(-1, 0, 0));
        Checks.throwsIndex(loft, "layer 10", () -> loft.wind(10, 0, 0));
        Checks.throwsIndex(loft, "layer 10 with a wrong wx", () -> loft.wind(10, 21, 0));
        Checks.throwsArgument(loft, "wx 21", () -> loft.wind(0, 21, 1));
        Checks.throwsArgument(loft, "wx -21", () -> loft.wind(0, -21, 1));
        Checks.throwsArgument(loft, "wy 21", () -> loft.wind(0, 1, 21));
        Checks.throwsArgument(loft, "wy -21", () -> loft.wind(0, 1, -21));
    }
}
