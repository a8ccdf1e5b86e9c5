/** The edges that section 5 and promises 33 to 36 name: where to strike, smoke, hiding, a spring. */
public final class SmokeEdgesTest {
    private static final int LEAST = Integer.MIN_VALUE, MOST = Integer.MAX_VALUE;
    private static final int[] NO_ROWS = {-1, 6, LEAST, MOST};
    private static final String FIVE = "v0h90-h90-h90-h90-h90-";

    public static void main(String[] args) {
        asAtFirst();
        whereTold();
        whereNone();
        smokeTold();
        smokeSets();
        smokeRefused();
        hidesTold();
        hidesNone();
        hidesBad();
        hidesRefused();
        springTold();
        springRefused();
        Due.finish("SmokeEdgesTest");
    }

    private static void asAtFirst() {
        Due.sentence("Terms", "---- 5 striking, smoke (aside; as at first: nothing STRUCK, WOOD as it was then,"
                + " HOUR 0).");
        OneMatch x = Due.village("v02h20-h31-p20-");
        x.stack(0, 3);
        Due.lay(x, 0, 1, 3);
        Due.both(x, "where at first", x.where(), 1 | 4, 0);
        Due.chance(x, "smoke at first", x.smoke(0), 1, 1);
        Due.due("whose it was at first", x.asked(), 1);
        x.hour();
        x.strike(2);
        x.hour();
        Due.due("another hour", x.count(1), 2);
        long before = x.digest();
        Due.both(x, "where later", x.where(), 1 | 4, 0);
        Due.chance(x, "smoke later", x.smoke(0), 1, 1);
        Due.due("whose it was, later", x.asked(), 1);
        Due.due("hides", x.hides(0, 1), 1);
        Due.due("aside", x.digest(), before);
        Due.due("aside, deeds", x.undo(0), 3);
        Due.due("aside, wood at first", x.count(4), 3 + 3 + 2);
    }

    private static void whereTold() {
        Due.sentence("Promise 33", "HOUSES (bits) in which the match could be STRUCK at HOUR 0; that one of these that,"
                + " nothing CARRIED, BURNS longest (the first) by asked()");
        OneMatch x = Due.village("v0h50-s51-i53-d90-p30-");
        Due.both(x, "five of five hours each: the first", x.where(), 31, 0);
        x.stack(0, 4);
        Due.both(x, "the first one a wood less", x.where(), 31, 1);
        x.stack(4, 4);
        Due.both(x, "peat of 4 lasts 7", x.where(), 31, 4);
        x.stack(0, 0);
        Due.both(x, "without wood it can't be", x.where(), 30, 4);
        x = Due.village("v0h91-h10-t12-");
        Due.both(x, "one that catches alone", x.where(), 2, 1);
        x = Due.village("v0p20-t10-h30-");
        Due.both(x, "from hour 0 on: peat 3, pot 1, house 3", x.where(), 7, 0);
        x.hour();
        Due.both(x, "as at hour 0", x.where(), 7, 0);
    }

    private static void whereNone() {
        Due.sentence("Promise 33", "(NONE: none).");
        OneMatch x = new OneMatch();
        Due.both(x, "no houses", x.where(), 0, Due.NONE);
        x = Due.village("v0h91-h00-s92-");
        Due.both(x, "none catches", x.where(), 0, Due.NONE);
        x.stack(1, 1);
        Due.both(x, "one does", x.where(), 2, 1);
    }

    private static void smokeTold() {
        Due.sentence("Promise 34", "how many ways (STRUCK where at HOUR 0, then a MOVE in each HOUR) fit, told by upper()"
                + " (lower() is 1); HOUSES (bits) in which it can have been STRUCK by asked(): 1.");
        OneMatch x = Due.village("v0h90-h90-");
        Due.lay(x, 1, 1);
        x.strike(0);
        x.odds(1, 1, 3);
        Due.due("lower by odds", x.lower(), 4);
        Due.lay(x, 0, 3);
        Due.chance(x, "from either to the other", x.smoke(0), 2, 1);
        Due.due("either", x.asked(), 3);
        Due.lay(x, 0, 1);
        Due.chance(x, "nothing carried", x.smoke(0), 1, 1);
        Due.due("it alone", x.asked(), 1);
        Due.lay(x, 0, 0);
        Due.chance(x, "none fits", x.smoke(0), 0, 1);
        Due.due("none", x.asked(), 0);
        x = Due.village("v0h10-h90-");
        Due.lay(x, 0, 2);
        Due.chance(x, "from it, to it, or carried to the one that goes out", x.smoke(0), 3, 1);
        Due.due("either", x.asked(), 3);
        x = Due.village("v0h91-h90-");
        Due.lay(x, 0, 1);
        Due.chance(x, "not where it does not catch", x.smoke(0), 0, 1);
    }

    private static void smokeSets() {
        Due.sentence("Promise 34", "A book of smoke in a ROW (1 to 5 sets: HOUSES that BURN at the ends of HOURS 0, 1,"
                + " ..)");
        for (int n = 0; n <= 6; n++) {
            OneMatch x = Due.village(FIVE);
            int[] book = new int[n];
            java.util.Arrays.fill(book, 16);
            Due.lay(x, 0, book);
            if (n >= 1 && n <= 5) {
                Due.chance(x, "sets " + n, x.smoke(0), 1, 1);
                Due.due("struck in the last house", x.asked(), 16);
            } else {
                Due.found(x, "sets " + n, x.smoke(0), Due.SIZE);
            }
        }
        OneMatch x = Due.village("v0h50-h90-");
        Due.lay(x, 0, 1, 1, 1, 1, 0);
        Due.chance(x, "out at the end of hour 4", x.smoke(0), 1, 1);
        Due.lay(x, 0, 1, 1, 1, 1, 1);
        Due.chance(x, "not on", x.smoke(0), 0, 1);
        Due.lay(x, 0, 1, 1, 1, 1, 2);
        Due.chance(x, "carried in its last hour", x.smoke(0), 1, 1);
    }

    private static void smokeRefused() {
        Due.sentence("Promise 34", "BAD; STATE: no HOUSES; NOTHING; SIZE; UNLIKE: no set. (In this order.)");
        OneMatch x = new OneMatch();
        for (int r : NO_ROWS) {
            Due.due("no houses, row " + r, x.smoke(r), Due.BAD);
        }
        Due.due("no houses, missing", x.smoke(0), Due.STATE);
        x.row(0, 0);
        Due.due("no houses, no sets", x.smoke(0), Due.STATE);
        Due.lay(x, 0, -1);
        Due.due("no houses, unlike", x.smoke(0), Due.STATE);
        Due.due("no finding", x.finding(), 0);
        for (int houses = 1; houses <= 5; houses++) {
            x = Due.village(FIVE.substring(0, 2 + 4 * houses));
            for (int r : NO_ROWS) {
                Due.due("row " + r, x.smoke(r), Due.BAD);
            }
            Due.found(x, "missing", x.smoke(0), Due.NOTHING);
            Due.lay(x, 0, -1, 0, 0, 0, 0, 0);
            Due.found(x, "six sets, unlike", x.smoke(0), Due.SIZE);
            int[] noSets = {-1, 1 << houses, LEAST, MOST};
            for (int set : noSets) {
                Due.lay(x, 0, 0, 0, 0, 0, set);
                Due.found(x, "the fifth is " + set + " of " + houses, x.smoke(0), Due.UNLIKE);
                Due.lay(x, 0, set);
                Due.found(x, "the only one is " + set + " of " + houses, x.smoke(0), Due.UNLIKE);
            }
            Due.lay(x, 0, (1 << houses) - 1, 0);
            Due.due("all of " + houses + ", and none", x.smoke(0), 1);
        }
    }

    private static void hidesTold() {
        Due.sentence("Promise 35", "the first one that is in some set of a book, and not in a set told (bits: HOUSES"
                + " whose smoke was seen).");
        OneMatch x = Due.village(FIVE);
        for (int h = 0; h < 5; h++) {
            Due.lay(x, 0, 0, 1 << h);
            Due.due("in the second set, not seen " + h, x.hides(0, 31 - (1 << h)), h);
            Due.lay(x, 0, 1 << h, 0, 0, 0, 0);
            Due.due("in the first set " + h, x.hides(0, 0), h);
            Due.lay(x, 0, 31);
            Due.due("the first behind those seen " + h, x.hides(0, (1 << h) - 1), h);
        }
        Due.lay(x, 0, 16, 8);
        Due.due("the first along the lane", x.hides(0, 0), 3);
        Due.lay(x, 0, 0, 0, 0, 0, 4);
        Due.due("in the fifth set", x.hides(0, 0), 2);
    }

    private static void hidesNone() {
        Due.sentence("Promise 35", "NONE: none.");
        OneMatch x = Due.village(FIVE);
        Due.lay(x, 0, 0);
        Due.due("no smoke", x.hides(0, 0), Due.NONE);
        Due.lay(x, 0, 1, 2, 4, 8, 16);
        Due.due("all seen", x.hides(0, 31), Due.NONE);
        Due.due("all but one seen", x.hides(0, 15), 4);
    }

    private static void hidesBad() {
        Due.sentence("Promise 35", "BAD: also a set that is none;");
        for (int houses = 1; houses <= 5; houses++) {
            OneMatch x = Due.village(FIVE.substring(0, 2 + 4 * houses));
            Due.lay(x, 0, 1);
            int[] noSets = {-1, 1 << houses, LEAST, MOST};
            for (int seen : noSets) {
                Due.due("seen " + seen + " of " + houses, x.hides(0, seen), Due.BAD);
            }
            Due.due("seen by all of " + houses, x.hides(0, (1 << houses) - 1), Due.NONE);
            Due.due("seen by none of " + houses, x.hides(0, 0), 0);
            for (int r : NO_ROWS) {
                Due.due("row " + r, x.hides(r, 0), Due.BAD);
            }
        }
        OneMatch x = new OneMatch();
        Due.due("no houses, no set but 0", x.hides(0, 1), Due.BAD);
        Due.due("no houses, -1", x.hides(0, -1), Due.BAD);
        Due.due("no houses, row 6", x.hides(6, 0), Due.BAD);
    }

    private static void hidesRefused() {
        Due.sentence("Promise 35", "STATE; NOTHING; SIZE; UNLIKE. (In this order.)");
        OneMatch x = new OneMatch();
        Due.due("no houses, missing", x.hides(0, 0), Due.STATE);
        x.row(0, 0);
        Due.due("no houses, no sets", x.hides(0, 0), Due.STATE);
        Due.lay(x, 0, -1);
        Due.due("no houses, unlike", x.hides(0, 0), Due.STATE);
        Due.due("no finding", x.finding(), 0);
        Due.write(x, 0, "v0h90-h90-");
        x.village(0);
        Due.found(x, "missing", x.hides(1, 0), Due.NOTHING);
        x.row(1, 0);
        Due.found(x, "no sets", x.hides(1, 0), Due.SIZE);
        Due.lay(x, 1, 4, 0, 0, 0, 0, 0);
        Due.found(x, "six sets, unlike", x.hides(1, 0), Due.SIZE);
        int[] noSets = {-1, 4, LEAST, MOST};
        for (int set : noSets) {
            Due.lay(x, 1, 1, 0, 0, 0, set);
            Due.found(x, "the fifth is " + set, x.hides(1, 0), Due.UNLIKE);
        }
        Due.lay(x, 1, 3, 0, 0, 0, 3);
        Due.due("five sets", x.hides(1, 1), 1);
        Due.lay(x, 1, 3);
        Due.due("one set", x.hides(1, 1), 1);
    }

    private static void springTold() {
        Due.sentence("Promise 36", "How much WOOD a HOUSE takes that BURNS for n (0 .. 20) HOURS from this one on, had it"
                + " enough.");
        OneMatch x = Due.village("v0h00-p03-s00-d00-t00-");
        for (int hour = 0; hour <= 4; hour++) {
            int[] sums = new int[5];
            for (int n = 0; n <= 20; n++) {
                for (int h = 0; h < 5; h++) {
                    Due.due("house " + h + ", hours " + n + " from " + hour, x.spring(h, n), sums[h]);
                }
                int at = hour + n;
                sums[0]++;
                sums[1] += at % 2 == 0 ? 1 : 0;
                sums[2]++;
                sums[3] += 2;
                sums[4] += at % 4 == 0 ? 1 : 0;
            }
            x.hour();
        }
        Due.due("a tile", Due.village("v0i03-").spring(0, 20), 20);
    }

    private static void springRefused() {
        Due.sentence("Promise 36", "BAD.");
        Due.due("no houses", new OneMatch().spring(0, 0), Due.BAD);
        OneMatch x = Due.village("v0h90-h90-");
        int[] noHours = {-1, 21, LEAST, MOST};
        for (int n : noHours) {
            Due.due("hours " + n, x.spring(0, n), Due.BAD);
        }
        int[] noHouse = {-1, 2, 5, LEAST, MOST};
        for (int h : noHouse) {
            Due.due("house " + h, x.spring(h, 0), Due.BAD);
        }
        Due.due("the last house, 20 hours", x.spring(1, 20), 20);
        Due.due("the first house, no hours", x.spring(0, 0), 0);
    }
}
