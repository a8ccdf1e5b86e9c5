/** Promises 33 to 36: striking, smoke. */
public final class StrikingTest {
    public static void main(String[] args) {
        where();
        smoke();
        hides();
        spring();
        Due.finish("StrikingTest");
    }

    private static void where() {
        OneMatch x = new OneMatch();
        Due.both(x, "without houses", x.where(), 0, Due.NONE);
        x = Due.village("v0 h51- h00- h12-");
        Due.both(x, "nowhere", x.where(), 0, Due.NONE);
        x = Due.village("v0 h40- d90- s51- p30- i53-");
        Due.both(x, "the first of those that last longest", x.where(), 31, 1);
        x.strike(0);
        x.hour();
        x.hour();
        Due.both(x, "as at first", x.where(), 31, 1);
        x.undo(0);
        x.stack(3, 4);
        Due.both(x, "wood as stacked", x.where(), 31, 3);
        x.hour();
        Due.both(x, "from hour 0 on", x.where(), 31, 3);
    }

    private static void smokeIs(OneMatch x, String what, int ways, int where, int... book) {
        Due.lay(x, 2, book);
        Due.chance(x, what, x.smoke(2), ways, 1);
        Due.due(what + ": asked()", x.asked(), where);
    }

    private static void smoke() {
        OneMatch x = new OneMatch();
        Due.due("without houses", x.smoke(0), Due.STATE);
        Due.due("bad first", x.smoke(6), Due.BAD);
        Due.due("row -1", x.smoke(-1), Due.BAD);
        x = Due.village("v0 h20- h30- h10- h91-");
        Due.found(x, "a missing row", x.smoke(0), Due.NOTHING);
        smokeIs(x, "one: some carried to or from one that is out then", 3, 5, 1);
        smokeIs(x, "both: from either to the other", 2, 3, 3);
        smokeIs(x, "a wet one", 0, 0, 8);
        smokeIs(x, "nothing: the short one", 1, 4, 0);
        smokeIs(x, "it does not come back", 0, 0, 0, 1);
        smokeIs(x, "two sets", 3, 6, 2, 3);
        smokeIs(x, "five sets", 5, 6, 2, 2, 0, 0, 0);
        x.strike(0);
        x.carry(0, 1);
        x.hour();
        smokeIs(x, "as at first, whatever was done", 2, 3, 3);
        x.row(0, 0);
        Due.found(x, "no sets", x.smoke(0), Due.SIZE);
        x.row(0, 6);
        Due.found(x, "six sets", x.smoke(0), Due.SIZE);
        Due.lay(x, 0, 15, 16);
        Due.found(x, "no set", x.smoke(0), Due.UNLIKE);
        Due.lay(x, 0, -1);
        Due.found(x, "no set below 0", x.smoke(0), Due.UNLIKE);
        Due.lay(x, 0, 16, 0, 0, 0, 0, 0);
        Due.found(x, "size ahead of unlike", x.smoke(0), Due.SIZE);
        Due.due("upper behind refusals", x.upper(), 2);
    }

    private static void hides() {
        OneMatch x = new OneMatch();
        Due.due("without houses", x.hides(0, 0), Due.STATE);
        Due.due("without houses no set but 0", x.hides(0, 1), Due.BAD);
        Due.due("row 6", x.hides(6, 0), Due.BAD);
        Due.due("row -1", x.hides(-1, 0), Due.BAD);
        x = Due.village("v0 h20- h30- h10-");
        Due.found(x, "a missing row", x.hides(0, 0), Due.NOTHING);
        Due.lay(x, 0, 4, 2);
        Due.due("the first", x.hides(0, 0), 1);
        Due.due("the first not seen", x.hides(0, 2), 2);
        Due.due("seen is what is in no set", x.hides(0, 1), 1);
        Due.due("all seen", x.hides(0, 6), Due.NONE);
        Due.due("a set too high", x.hides(0, 8), Due.BAD);
        Due.due("a set below 0", x.hides(0, -1), Due.BAD);
        x.row(0, 0);
        Due.found(x, "no sets", x.hides(0, 0), Due.SIZE);
        x.row(0, 6);
        Due.found(x, "six sets", x.hides(0, 0), Due.SIZE);
        Due.lay(x, 0, 0, 8);
        Due.found(x, "no set", x.hides(0, 0), Due.UNLIKE);
        Due.lay(x, 0, 0, 0, 0, 0, 7);
        Due.due("five sets", x.hides(0, 1), 1);
        x.row(0, 1);
        Due.due("one set", x.hides(0, 0), Due.NONE);
        x.lay(0, 0, 4);
        Due.due("one set, one house", x.hides(0, 0), 2);
    }

    private static void spring() {
        OneMatch x = Due.village("v0 h00- p00- d00- t00- i03-");
        int[] of7 = {7, 4, 14, 2, 7};
        int[] of7FromOne = {7, 3, 14, 1, 7};
        for (int h = 0; h < 5; h++) {
            Due.due("7 hours of " + h, x.spring(h, 7), of7[h]);
            Due.due("no hours of " + h, x.spring(h, 0), 0);
        }
        Due.due("20 hours of a pot", x.spring(3, 20), 5);
        x.hour();
        for (int h = 0; h < 5; h++) {
            Due.due("7 hours from hour 1 on of " + h, x.spring(h, 7), of7FromOne[h]);
        }
        Due.due("21", x.spring(0, 21), Due.BAD);
        Due.due("-1", x.spring(0, -1), Due.BAD);
        Due.due("house 5", x.spring(5, 0), Due.BAD);
        Due.due("house -1", x.spring(-1, 0), Due.BAD);
    }
}
