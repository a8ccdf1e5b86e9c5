/** Promises 37 and 38: chances, lots. */
public final class ChancesTest {
    public static void main(String[] args) {
        odds();
        oddsRefused();
        lots();
        lotsRefused();
        Due.finish("ChancesTest");
    }

    private static void odds() {
        OneMatch x = Due.village("v0 h90- h90- h90- h20- h90-");
        x.strike(0);
        x.row(0, 0);
        Due.chance(x, "no moves", x.odds(0, 0, 12), 1, 1);
        Due.chance(x, "no moves, another", x.odds(1, 0, 0), 0, 1);
        Due.lay(x, 0, 1);
        Due.chance(x, "one move", x.odds(1, 0, 3), 3, 4);
        Due.chance(x, "surely", x.odds(1, 0, 0), 1, 1);
        Due.chance(x, "never", x.odds(1, 0, 12), 0, 1);
        Due.lay(x, 0, 1, 1);
        Due.chance(x, "tried twice", x.odds(1, 0, 5), 144 - 25, 144);
        Due.lay(x, 0, 1, 8, 16, 36);
        Due.chance(x, "a chain", x.odds(4, 0, 4), 8, 27);
        Due.lay(x, 0, 3, 22, 36, 36);
        Due.chance(x, "by one that is out then", x.odds(4, 0, 6), 1, 4);
        Due.chance(x, "it is out", x.odds(3, 0, 6), 0, 1);
        Due.lay(x, 0, 7, 35, 24, 1);
        Due.chance(x, "moves that can't be are sure to be none", x.odds(1, 0, 6), 1, 2);
        x.carry(0, 2);
        Due.lay(x, 0, 1);
        Due.chance(x, "carried in this hour", x.odds(1, 0, 0), 0, 1);
        Due.due("aside", x.count(3), 2);
    }

    private static void oddsRefused() {
        OneMatch x = new OneMatch();
        Due.due("without houses", x.odds(0, 0, 0), Due.BAD);
        x = Due.village("v0 h90- h90-");
        Due.found(x, "a missing row", x.odds(0, 0, 0), Due.NOTHING);
        x.row(0, 5);
        Due.found(x, "five moves", x.odds(0, 0, 0), Due.SIZE);
        x.lay(0, 0, 37);
        Due.found(x, "size ahead of unlike", x.odds(0, 0, 0), Due.SIZE);
        Due.lay(x, 0, 37);
        Due.found(x, "37", x.odds(0, 0, 0), Due.UNLIKE);
        Due.lay(x, 0, 0, -1);
        Due.found(x, "-1", x.odds(0, 0, 0), Due.UNLIKE);
        Due.due("p 13", x.odds(0, 0, 13), Due.BAD);
        Due.due("p -1", x.odds(0, 0, -1), Due.BAD);
        Due.due("house 2", x.odds(2, 0, 0), Due.BAD);
        Due.due("house -1", x.odds(-1, 0, 0), Due.BAD);
        Due.due("row 6", x.odds(0, 6, 0), Due.BAD);
        Due.due("row -1", x.odds(0, -1, 0), Due.BAD);
        Due.due("upper behind refusals", x.upper(), 0);
        Due.due("lower behind refusals", x.lower(), 1);
    }

    /** The LOTS by hand, each EMBERS and HOUR by a call of its own. */
    private static int lotsByHand(OneMatch x, int n, long seed) {
        long lot = seed;
        int houses = x.count(0);
        int burning = 0;
        for (int i = 0; i < n; i++) {
            lot = lot * 48271 % 2147483647;
            x.carry((int) (lot % houses), (int) (lot / 16 % houses));
            burning = x.hour();
        }
        return burning;
    }

    private static void lots() {
        int[] seeds = {1, 2, 77, 4711, 31337, 2147483646, 1 << 30};
        for (int seed : seeds) {
            for (int n = 1; n <= 10; n++) {
                OneMatch x = Due.village("v0102 t90- p90- i93- h92- s51-");
                OneMatch y = Due.village("v0102 t90- p90- i93- h92- s51-");
                x.strike(0);
                y.strike(0);
                Due.due("lots " + n + " of " + seed, x.lots(n, seed), lotsByHand(y, n, seed));
                Due.due("as by hand", x.digest(), y.digest());
                x.undo(2);
                y.undo(2);
                Due.due("undone as by hand", x.digest(), y.digest());
            }
        }
    }

    private static void lotsRefused() {
        OneMatch x = new OneMatch();
        Due.due("without houses", x.lots(1, 1), Due.STATE);
        Due.due("bad first", x.lots(0, 1), Due.BAD);
        x = Due.village("v0h10-");
        Due.due("11 hours", x.lots(11, 1), Due.BAD);
        Due.due("-1 hours", x.lots(-1, 1), Due.BAD);
        Due.due("seed 0", x.lots(1, 0), Due.BAD);
        Due.due("seed -1", x.lots(1, -1), Due.BAD);
        Due.due("seed 2147483647", x.lots(1, 2147483647), Due.BAD);
        for (int i = 0; i < 20; i++) {
            x.hour();
        }
        Due.due("20 deeds and 2 by 10", x.lots(10, 1), 0);
        Due.due("30 deeds", x.count(3), 30);
        x.hour();
        Due.due("31 deeds and 2 by 5", x.lots(5, 1), Due.FULL);
        Due.due("nothing done", x.count(3), 31);
        Due.due("31 deeds and 2 by 4", x.lots(4, 1), 0);
        Due.due("bad ahead of full", x.lots(11, 1), Due.BAD);
    }
}
