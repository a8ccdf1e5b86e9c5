/** The edges that promises 37 and 38 name: chances, LOTS. */
public final class ChanceEdgesTest {
    private static final int LEAST = Integer.MIN_VALUE, MOST = Integer.MAX_VALUE, NO = Due.NO_MOVE;
    private static final int LAST_SEED = 2147483646;

    public static void main(String[] args) {
        oddsByTwelfths();
        oddsFourMoves();
        oddsMoveThatCannotBe();
        oddsRefused();
        lotsCarry();
        lotsHours();
        lotsNumbers();
        lotsRefused();
        lotsFull();
        Due.finish("ChanceEdgesTest");
    }

    private static int common(int a, int b) {
        return b == 0 ? a : common(b, a % b);
    }

    private static void oddsByTwelfths() {
        Due.sentence("Promise 37", "if EMBERS go out on the way by p (0 .. 12) of 12 each time");
        OneMatch x = Due.struck("v0h90-h90-", 0);
        Due.lay(x, 0, 1);
        for (int p = 0; p <= 12; p++) {
            int shared = common(12 - p, 12);
            Due.chance(x, "p " + p, x.odds(1, 0, p), (12 - p) / shared, 12 / shared);
            Due.chance(x, "surely, p " + p, x.odds(0, 0, p), 1, 1);
        }
        Due.lay(x, 0, 1, 1);
        Due.chance(x, "each time anew", x.odds(1, 0, 1), 143, 144);
        Due.chance(x, "never", x.odds(1, 0, 12), 0, 1);
        Due.chance(x, "at once", x.odds(1, 0, 0), 1, 1);
    }

    private static void oddsFourMoves() {
        Due.sentence("Promise 37", "Chances that a HOUSE BURNS behind a PLAN in a ROW (4 MOVES at most),");
        OneMatch x = Due.struck("v0h90-h90-", 0);
        long[] above = {0, 1, 23, 397, 6095};
        long[] below = {1, 12, 144, 1728, 20736};
        for (int n = 0; n <= 6; n++) {
            int[] plan = new int[n];
            java.util.Arrays.fill(plan, 1);
            Due.lay(x, 5, plan);
            if (n <= 4) {
                Due.chance(x, "moves " + n, x.odds(1, 5, 11), above[n], below[n]);
            } else {
                Due.found(x, "moves " + n, x.odds(1, 5, 11), Due.SIZE);
            }
        }
        x.row(5, 0);
        Due.chance(x, "no moves, it burns", x.odds(0, 5, 12), 1, 1);
        x = Due.struck("v0h30-h90-", 0);
        Due.lay(x, 5, NO, NO, 1, NO);
        Due.chance(x, "out by then", x.odds(0, 5, 6), 0, 1);
        Due.chance(x, "carried in its last hour", x.odds(1, 5, 6), 1, 2);
        Due.due("aside", x.count(3), 1);
    }

    private static void oddsMoveThatCannotBe() {
        Due.sentence("Promise 37", "(a MOVE that can't be is none), told by upper(), lower(): 1.");
        OneMatch x = Due.struck("v1h90-h91-h90-h90-h00-", 0);
        for (int move = 0; move <= NO; move++) {
            Due.lay(x, 0, move);
            Due.chance(x, "it burns by move " + move, x.odds(0, 0, 5), 1, 1);
            Due.chance(x, "move " + move, x.odds(2, 0, 5), move == 2 ? 7 : 0, move == 2 ? 12 : 1);
        }
        Due.lay(x, 0, 2, 15);
        Due.chance(x, "if the first goes out, the second can't be", x.odds(3, 0, 6), 1, 4);
        x.carry(0, 2);
        Due.lay(x, 0, 15);
        Due.chance(x, "carried in this hour", x.odds(3, 0, 0), 0, 1);
        Due.lay(x, 0, 15, 15);
        Due.chance(x, "and in the next", x.odds(3, 0, 6), 1, 2);
    }

    private static void oddsRefused() {
        Due.sentence("Promise 37", "BAD; NOTHING; SIZE: more than 4; UNLIKE. (In this order.)");
        Due.due("no houses", new OneMatch().odds(0, 0, 0), Due.BAD);
        OneMatch x = Due.village("v0h90-h90-");
        int[] noChance = {-1, 13, LEAST, MOST};
        for (int p : noChance) {
            Due.due("p " + p + ", missing", x.odds(0, 0, p), Due.BAD);
        }
        int[] noHouse = {-1, 2, 5, LEAST, MOST};
        for (int h : noHouse) {
            Due.due("house " + h + ", missing", x.odds(h, 0, 0), Due.BAD);
        }
        int[] noRow = {-1, 6, LEAST, MOST};
        for (int r : noRow) {
            Due.due("row " + r, x.odds(0, r, 0), Due.BAD);
        }
        Due.due("no finding", x.finding(), 0);
        Due.found(x, "missing", x.odds(1, 5, 12), Due.NOTHING);
        Due.lay(x, 0, 37, 0, 0, 0, 0);
        Due.found(x, "five moves, unlike", x.odds(0, 0, 0), Due.SIZE);
        int[] noMoves = {-1, 37, LEAST, MOST};
        for (int move : noMoves) {
            Due.lay(x, 0, NO, NO, NO, move);
            Due.found(x, "the fourth is " + move, x.odds(0, 0, 0), Due.UNLIKE);
            Due.lay(x, 0, move);
            Due.found(x, "the only one is " + move, x.odds(0, 0, 0), Due.UNLIKE);
        }
        Due.lay(x, 0, 0, 36);
        Due.chance(x, "0 and 36", x.odds(0, 0, 0), 0, 1);
    }

    private static void lotsCarry() {
        Due.sentence("Promise 38", "from HOUSE it modulo how many there are to HOUSE it by 16, cut, modulo the same EMBERS"
                + " are CARRIED, if they can be (a DEED); the HOUR goes by: how many HOUSES BURN.");
        // the first number of seed 1 is 48271, odd, and 3016 by 16: from 1 to 0
        OneMatch x = Due.struck("v0h90-h90-", 1);
        Due.due("from 1 to 0", x.lots(1, 1), 2);
        Due.due("two deeds more", x.count(3), 3);
        Due.due("the hour", x.count(1), 1);
        Due.due("wood", x.count(4), 16);
        x = Due.struck("v0h90-h90-", 0);
        Due.due("1 does not burn", x.lots(1, 1), 1);
        Due.due("one deed more", x.count(3), 2);
        // the first number of the last seed is 2147435376, even, and 134214711 by 16: from 0 to 1
        x = Due.struck("v0h90-h90-", 0);
        Due.due("from 0 to 1", x.lots(1, LAST_SEED), 2);
        // by 5 the first number of seed 1 tells 1 and 1
        x = Due.struck("v0h90-h90-h90-h90-h90-", 1);
        Due.due("from 1 to 1 can't be", x.lots(1, 1), 1);
        Due.due("one deed", x.count(3), 2);
        x = Due.village("v0h90-h90-");
        Due.due("nothing struck", x.lots(1, 1), 0);
        x = Due.struck("v0h90-h90-h90-", 1);
        x.carry(1, 2);
        Due.due("carried in this hour: from 1 to 1", x.lots(1, 1), 2);
        x = Due.struck("v0h20-h10-", 1);
        Due.due("those that burn then", x.lots(1, 1), 1);
        x = Due.village("v0h90-");
        x.strike(0);
        Due.due("one house", x.lots(1, 1), 1);
        Due.due("one house, one deed", x.count(3), 2);
    }

    private static void lotsHours() {
        Due.sentence("Promise 38", "n (1 .. 10) HOURS truly by LOTS of a seed:");
        for (int n = 1; n <= 10; n++) {
            OneMatch x = Due.village("v0h91-");
            Due.due("hours " + n, x.lots(n, 7), 0);
            Due.due("truly", x.count(1), n);
            Due.due("deeds", x.count(3), n);
            Due.due("undone", x.undo(0), n);
        }
        int[] none = {0, -1, 11, LEAST, MOST};
        OneMatch x = Due.village("v0h91-");
        for (int n : none) {
            Due.due("hours " + n, x.lots(n, 7), Due.BAD);
        }
        Due.due("no deeds", x.count(3), 0);
    }

    /** The HOUSES that burn behind LOTS, each number reckoned by hand. */
    private static int byHand(OneMatch x, int n, long seed) {
        long number = seed;
        int houses = x.count(0);
        for (int i = 0; i < n; i++) {
            number = 48271 * number % 2147483647L;
            x.carry((int) (number % houses), (int) (number / 16 % houses));
            x.hour();
        }
        return Integer.bitCount(x.fires());
    }

    private static void lotsNumbers() {
        Due.sentence("Promise 38", "in each a number comes from the one ahead by 48271 times it modulo 2147483647, the"
                + " first from the seed (1 .. 2147483646):");
        int[] seeds = {1, 2, 44488, 44489, 1 << 16, 1 << 30, LAST_SEED - 1, LAST_SEED};
        for (int houses = 1; houses <= 5; houses++) {
            String text = "v01t90-t90-t90-t90-t90-".substring(0, 3 + 4 * houses);
            for (int seed : seeds) {
                OneMatch x = Due.struck(text, houses - 1);
                OneMatch y = Due.struck(text, houses - 1);
                Due.due("seed " + seed + " of " + houses, x.lots(10, seed), byHand(y, 10, seed));
                Due.due("as by hand", x.digest(), y.digest());
            }
        }
        int[] none = {0, -1, MOST, LEAST};
        OneMatch x = Due.village("v0h91-");
        for (int seed : none) {
            Due.due("seed " + seed, x.lots(1, seed), Due.BAD);
        }
        Due.due("seed 1", x.lots(1, 1), 0);
        Due.due("the last seed", x.lots(1, LAST_SEED), 0);
    }

    private static void lotsRefused() {
        Due.sentence("Promise 38", "BAD; STATE: no HOUSES;");
        OneMatch x = new OneMatch();
        Due.due("hours 0", x.lots(0, 1), Due.BAD);
        Due.due("hours 11", x.lots(11, 1), Due.BAD);
        Due.due("seed 0", x.lots(1, 0), Due.BAD);
        Due.due("seed most", x.lots(1, MOST), Due.BAD);
        Due.due("no houses, 1", x.lots(1, 1), Due.STATE);
        Due.due("no houses, 10", x.lots(10, LAST_SEED), Due.STATE);
        Due.due("no hour by it", x.count(1), 0);
    }

    private static void lotsFull() {
        Due.sentence("Promise 38", "FULL: with 2 n more there would be more than 40 DEEDS. (FULL last.)");
        for (int n = 1; n <= 10; n++) {
            OneMatch x = Due.village("v0h91-");
            Due.hours(x, 41 - 2 * n);
            long before = x.digest();
            Due.due("41 with " + n, x.lots(n, 1), Due.FULL);
            Due.due("bad goes first", x.lots(n, 0), Due.BAD);
            Due.due("nothing goes by", x.digest(), before);
            x.undo(40 - 2 * n);
            Due.due("40 with " + n, x.lots(n, 1), 0);
            Due.due("deeds then", x.count(3), 40 - n);
        }
        OneMatch x = Due.village("v0h90-h90-");
        Due.hours(x, 37);
        x.strike(1);
        Due.due("both deeds have room", x.lots(1, 1), 2);
        Due.due("40", x.count(3), 40);
        Due.due("full", x.lots(1, 1), Due.FULL);
    }
}
