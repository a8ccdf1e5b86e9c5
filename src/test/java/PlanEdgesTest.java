import java.util.Arrays;

/** The edges that section 4 and promises 27 to 32 name: MOVES and PLANS. */
public final class PlanEdgesTest {
    private static final int LEAST = Integer.MIN_VALUE, MOST = Integer.MAX_VALUE, NO = Due.NO_MOVE;
    private static final int[] NO_ROWS = {-1, 6, LEAST, MOST};
    private static final int[] NO_HOURS = {-1, 5, LEAST, MOST};

    public static void main(String[] args) {
        moves();
        carriedInThisHour();
        firstOnesFirst();
        noneToFourHours();
        aside();
        canTold();
        canRefused();
        planComes();
        planNone();
        planRefused();
        waysTold();
        waysRefused();
        mostTold();
        mostRefused();
        serveBehindItsMove();
        serveAtTheLast();
        serveFromThisHourOn();
        serveNone();
        serveRefused();
        runTold();
        runTenMoves();
        runMoveThatCannotBe();
        runRefused();
        Due.finish("PlanEdgesTest");
    }

    private static void moves() {
        Due.sentence("Terms", "A MOVE is 6 times from where, and to where; 36: none.");
        for (int from = 0; from < 5; from++) {
            for (int to = 0; to < 5; to++) {
                OneMatch x = Due.struck("v0h90-h90-h90-h90-h90-", from);
                int far = Math.abs(from - to);
                if (far >= 1 && far <= 3) {
                    Due.due("plan", x.plan(to, 1, 0), 1);
                    Due.rowIs(x, from + " to " + to, 0, 6 * from + to);
                }
                Due.lay(x, 1, 6 * from + to);
                Due.due("run " + from + " to " + to, x.run(1), 1 << from | (far <= 3 ? 1 << to : 0));
                Due.lay(x, 1, NO);
                Due.due("run none", x.run(1), 1 << from);
            }
        }
        OneMatch x = Due.village("v0h90-");
        x.most(1, 2);
        Due.rowIs(x, "none", 2, NO);
    }

    private static void carriedInThisHour() {
        Due.sentence("Terms", "A PLAN is a MOVE for each HOUR from this one on; behind each that HOUR goes by"
                + " (if EMBERS were CARRIED in this one, the first MOVE is none).");
        OneMatch x = Due.struck("v0h90-h90-h90-", 0);
        Due.chance(x, "nothing carried", x.ways(2, 1), 3, 1);
        x.carry(0, 1);
        Due.chance(x, "no hours", x.ways(1, 0), 1, 1);
        Due.due("no hours: it burns", x.asked(), 1);
        Due.chance(x, "one hour", x.ways(2, 1), 1, 1);
        Due.due("one hour: it can't", x.asked(), 0);
        Due.chance(x, "two hours", x.ways(2, 2), 3, 1);
        Due.due("two hours: from either", x.asked(), 2);
        Due.due("plan", x.plan(2, 2, 0), 1);
        Due.rowIs(x, "the first is none", 0, NO, 2);
        Due.due("most", x.most(1, 0), 2);
        Due.rowIs(x, "the first is none, most", 0, NO);
        Due.due("serve", x.serve(1, 0), 0);
        Due.rowIs(x, "the first is none, serve", 0, NO);
        Due.due("can", x.can(1), 3);
        x.hour();
        Due.due("the next hour", x.plan(2, 1, 0), 1);
        Due.rowIs(x, "a move again", 0, 2);
    }

    private static void firstOnesFirst() {
        Due.sentence("Terms", "PLANS go by MOVES, the first ones first.");
        OneMatch x = Due.struck("v0h90-h90-h90-h90-h90-", 2);
        x.plan(2, 1, 0);
        Due.rowIs(x, "the least move", 0, 12);
        x.plan(2, 4, 0);
        Due.rowIs(x, "the least ones", 0, 12, 1, 3, 10);
        x.plan(4, 2, 0);
        Due.rowIs(x, "the first as it can be, then the needed one", 0, 12, 16);
        x.carry(2, 4);
        x.hour();
        x.plan(2, 1, 0);
        Due.rowIs(x, "from the first of those that burn", 0, 12);
        x.plan(1, 1, 0);
        Due.rowIs(x, "from the first of both that reach it", 0, 13);
    }

    private static void noneToFourHours() {
        Due.sentence("Terms", "---- 4 plans (aside; n 0 .. 4 HOURS).");
        OneMatch x = Due.struck("v0h90-h90-", 0);
        for (int n = 0; n <= 4; n++) {
            Due.due("can " + n, x.can(n), n == 0 ? 1 : 3);
            Due.due("plan " + n, x.plan(0, n, 0), n == 0 ? 0 : 1);
            Due.due("size of plan " + n, x.at(0, n), Due.FINDING);
            Due.due("ways " + n, x.ways(0, n), 1);
            Due.due("most " + n, x.most(n, 1), n == 0 ? 1 : 2);
            Due.due("size of most " + n, x.at(1, n), Due.FINDING);
            Due.due("serve " + n, x.serve(n, 2), n == 0 ? 0 : 1);
            Due.due("size of serve " + n, x.at(2, n), Due.FINDING);
        }
        for (int n : NO_HOURS) {
            Due.due("can " + n, x.can(n), Due.BAD);
            Due.due("plan " + n, x.plan(0, n, 0), Due.BAD);
            Due.due("ways " + n, x.ways(0, n), Due.BAD);
            Due.due("most " + n, x.most(n, 1), Due.BAD);
            Due.due("serve " + n, x.serve(n, 2), Due.BAD);
        }
    }

    private static void aside() {
        Due.sentence("Terms", "---- 4 plans (aside;");
        OneMatch x = Due.struck("v0h90-i93-p900d50-", 0);
        x.hour();
        Due.lay(x, 0, 1, 8, 20);
        x.row(1, 4);
        x.row(2, 4);
        x.row(3, 4);
        x.can(4);
        x.ways(3, 4);
        x.plan(3, 4, 1);
        x.most(4, 2);
        x.serve(4, 3);
        x.run(0);
        Due.due("hour", x.count(1), 1);
        Due.due("deeds", x.count(3), 2);
        Due.due("wood", x.count(4), 31);
        Due.due("fires", x.fires(), 1);
        Due.due("wet", Due.fact(x, 1, 2), 2);
        Due.due("reach", x.reach(), 14);
    }

    private static void canTold() {
        Due.sentence("Promise 27", "HOUSES (bits) each of which BURNS behind some PLAN of n HOURS.");
        Due.due("no houses", new OneMatch().can(0), 0);
        OneMatch x = Due.struck("v2h10-h20-h30-h40-h50-", 0);
        int[] sets = {1, 2, 4, 4 | 8, 8 | 16};
        for (int n = 0; n <= 4; n++) {
            Due.due("by " + n + " hours", x.can(n), sets[n]);
        }
        x = Due.struck("v2h90-h10-h90-", 0);
        Due.due("the one between is out at once", x.can(1), 1);
        x.undo(0);
        Due.due("nothing burns", x.can(4), 0);
    }

    private static void canRefused() {
        Due.sentence("Promise 27", "BAD.");
        OneMatch[] both = {new OneMatch(), Due.village("v0h10-")};
        for (OneMatch x : both) {
            for (int n : NO_HOURS) {
                Due.due("hours " + n, x.can(n), Due.BAD);
            }
            Due.due("hours 0", x.can(0), 0);
            Due.due("hours 4", x.can(4), 0);
        }
    }

    private static void planComes() {
        Due.sentence("Promise 28", "The first PLAN of n HOURS behind which a HOUSE BURNS comes to a ROW (anew): how many"
                + " EMBERS it CARRIES.");
        OneMatch x = Due.struck("v0h90-h90-h90-", 0);
        x.row(5, 40);
        x.lay(5, 0, 7);
        Due.due("no hours", x.plan(0, 0, 5), 0);
        Due.rowIs(x, "a row of none", 5);
        Due.due("one hour", x.plan(2, 1, 5), 1);
        Due.rowIs(x, "one move", 5, 2);
        Due.due("four hours", x.plan(2, 4, 5), 2);
        Due.rowIs(x, "four moves", 5, 1, 2, NO, NO);
        x.tear(5);
        Due.due("a missing row", x.plan(1, 3, 5), 2);
        Due.rowIs(x, "it is there", 5, 1, 2, NO);
        x = Due.struck("v0h10-h30-", 0);
        Due.due("no second hour without carrying", x.plan(1, 2, 0), 1);
        Due.rowIs(x, "at once", 0, 1, NO);
    }

    private static void planNone() {
        Due.sentence("Promise 28", "NONE: none.");
        OneMatch x = Due.struck("v0h90-h92-h10-", 0);
        Due.lay(x, 0, 5, 6);
        Due.due("not by 0 hours", x.plan(1, 0, 0), Due.NONE);
        Due.due("not by 2 hours: wet", x.plan(1, 2, 0), Due.NONE);
        Due.rowIs(x, "the row stays", 0, 5, 6);
        Due.due("by 3 hours: dry then", x.plan(1, 3, 0), 2);
        Due.due("never: out at each end", x.plan(2, 4, 1), Due.NONE);
        Due.due("no row by none", x.count(6), 1);
        x = Due.village("v0h90-");
        Due.due("nothing burns", x.plan(0, 4, 0), Due.NONE);
        Due.due("none is no finding", x.finding(), 0);
    }

    private static void planRefused() {
        Due.sentence("Promise 28", "BAD.");
        Due.due("no houses", new OneMatch().plan(0, 0, 0), Due.BAD);
        OneMatch x = Due.struck("v0h90-h90-", 0);
        int[] noHouse = {-1, 2, 5, LEAST, MOST};
        for (int h : noHouse) {
            Due.due("house " + h, x.plan(h, 1, 0), Due.BAD);
        }
        for (int n : NO_HOURS) {
            Due.due("hours " + n, x.plan(0, n, 0), Due.BAD);
        }
        for (int r : NO_ROWS) {
            Due.due("row " + r, x.plan(0, 1, r), Due.BAD);
            Due.due("row " + r + ", no plan", x.plan(1, 0, r), Due.BAD);
        }
        Due.due("no row by these", x.count(6), 0);
        Due.due("the last house, most hours, the last row", x.plan(1, 4, 5), 1);
    }

    private static void waysTold() {
        Due.sentence("Promise 29", "How many PLANS of n HOURS there are, told by upper(); behind how many of these a"
                + " HOUSE BURNS by asked() (lower() is 1): 1.");
        OneMatch x = Due.struck("v0h90-h90-", 0);
        for (int n = 0; n <= 4; n++) {
            // it is carried in one of the hours, or never
            Due.chance(x, "hours " + n, x.ways(1, n), n + 1, 1);
            Due.due("burnt by " + n, x.asked(), n);
            Due.chance(x, "hours " + n, x.ways(0, n), n + 1, 1);
            Due.due("burns all the while", x.asked(), n + 1);
        }
        Due.lay(x, 0, 1);
        x.odds(1, 0, 3);
        Due.due("lower by odds", x.lower(), 4);
        Due.chance(x, "lower is 1 again", x.ways(0, 0), 1, 1);
        x.undo(0);
        Due.chance(x, "nothing burns", x.ways(0, 4), 1, 1);
        Due.due("none", x.asked(), 0);
    }

    private static void waysRefused() {
        Due.sentence("Promise 29", "BAD.");
        Due.due("no houses", new OneMatch().ways(0, 0), Due.BAD);
        OneMatch x = Due.struck("v0h90-h90-", 0);
        int[] noHouse = {-1, 2, 5, LEAST, MOST};
        for (int h : noHouse) {
            Due.due("house " + h, x.ways(h, 1), Due.BAD);
        }
        for (int n : NO_HOURS) {
            Due.due("hours " + n, x.ways(0, n), Due.BAD);
        }
        Due.due("nothing told", x.upper(), 0);
        Due.due("the last house, most hours", x.ways(1, 4), 1);
    }

    private static void mostTold() {
        Due.sentence("Promise 30", "The most HOUSES that BURN behind a PLAN of n HOURS; the first such PLAN comes to a"
                + " ROW (anew).");
        OneMatch x = Due.village("v0h90-h90-h90-h90-h90-");
        x.row(0, 40);
        Due.due("nothing burns, no hours", x.most(0, 0), 0);
        Due.rowIs(x, "a row of none", 0);
        Due.due("nothing burns", x.most(4, 0), 0);
        Due.rowIs(x, "nothing to carry", 0, NO, NO, NO, NO);
        x.strike(0);
        int[][] plans = {{}, {1}, {1, 2}, {1, 2, 3}, {1, 2, 3, 10}};
        for (int n = 0; n <= 4; n++) {
            Due.due("hours " + n, x.most(n, 0), n + 1);
            Due.rowIs(x, "the first of " + n, 0, plans[n]);
        }
        x = Due.struck("v0h90-h10-h10-h20-", 0);
        Due.due("one that lasts", x.most(1, 5), 2);
        Due.rowIs(x, "it", 5, 3);
        Due.due("at the last hour", x.most(2, 5), 2);
        Due.rowIs(x, "the first of the best", 5, 1, 3);
        x = Due.struck("v0h10-", 0);
        Due.due("all goes out", x.most(1, 5), 0);
        Due.rowIs(x, "no worse than none", 5, NO);
    }

    private static void mostRefused() {
        Due.sentence("Promise 30", "BAD; STATE: no HOUSES.");
        OneMatch[] both = {new OneMatch(), Due.village("v0h10-")};
        for (OneMatch x : both) {
            for (int n : NO_HOURS) {
                Due.due("hours " + n, x.most(n, 0), Due.BAD);
            }
            for (int r : NO_ROWS) {
                Due.due("row " + r, x.most(0, r), Due.BAD);
            }
            Due.due("no row by these", x.count(6), 0);
        }
        Due.due("no houses", both[0].most(0, 0), Due.STATE);
        Due.due("no houses, the last ones", both[0].most(4, 5), Due.STATE);
        Due.due("no row by it", both[0].count(6), 0);
    }

    /** So many times none, a MOVE, then none up to n. */
    private static int[] onlyAt(int n, int hour, int move) {
        int[] plan = new int[n];
        Arrays.fill(plan, NO);
        if (hour >= 0 && hour < n) {
            plan[hour] = move;
        }
        return plan;
    }

    private static void serveBehindItsMove() {
        Due.sentence("Promise 31", "as it is behind the MOVE of that HOUR,");
        for (int n = 1; n <= 4; n++) {
            for (int need = 0; need < n; need++) {
                // with one wood it burns in the very hour in which embers come
                OneMatch x = Due.struck("v0h90-h10" + need, 0);
                Due.due("need " + need + " of " + n, x.serve(n, 0), 1);
                Due.rowIs(x, "need " + need + " of " + n, 0, onlyAt(n, need, 1));
            }
        }
    }

    private static void serveAtTheLast() {
        Due.sentence("Promise 31", "at the last one as it is then), comes to a ROW (anew): how many EMBERS it CARRIES.");
        for (int n = 0; n <= 4; n++) {
            OneMatch x = Due.struck("v0h90-h10" + n, 0);
            Due.due("one wood is gone by then, " + n, x.serve(n, 0), Due.NONE);
            x = Due.struck("v0h90-h20" + n, 0);
            Due.due("two woods, " + n, x.serve(n, 0), n == 0 ? Due.NONE : 1);
            if (n > 0) {
                Due.rowIs(x, "two woods, " + n, 0, onlyAt(n, n - 1, 1));
            }
            x = Due.struck("v0h90" + n, 0);
            x.row(0, 40);
            Due.due("itself, " + n, x.serve(n, 0), 0);
            Due.rowIs(x, "itself, " + n, 0, onlyAt(n, -1, 0));
        }
        OneMatch x = Due.struck("v0h901h90-", 0);
        Due.due("it burns till then", x.serve(1, 0), 1);
        x = Due.struck("v0h101h90-", 0);
        Due.due("it is out then", x.serve(1, 0), Due.NONE);
    }

    private static void serveFromThisHourOn() {
        Due.sentence("Promise 31", "The first PLAN of n HOURS by which each HOUSE BURNS at the HOUR at which it NEEDS fire"
                + " (of those from this HOUR to the one n HOURS on, these, too:");
        for (int need = 0; need <= 9; need++) {
            OneMatch x = Due.village("v0h90-h00" + need);
            Due.hours(x, 2);
            x.strike(0);
            for (int n = 0; n <= 4; n++) {
                // the house without wood never burns: only hours outside 2 .. 2 + n can be served
                boolean looked = need >= 2 && need <= 2 + n;
                Due.due("need " + need + " at hour 2 by " + n, x.serve(n, 0), looked ? Due.NONE : 0);
            }
        }
        OneMatch x = Due.struck("v0h90-h10-h900", 0);
        Due.due("each of those, now", x.serve(0, 0), Due.NONE);
        x.carry(0, 2);
        Due.due("each of those, carried", x.serve(0, 0), 0);
        x = Due.struck("v0h90-h901h902h903h904", 0);
        Due.due("one by one", x.serve(4, 0), 4);
        Due.rowIs(x, "the first such", 0, 1, 2, 3, 10);
        x = Due.struck("v0h90-h901h901", 0);
        Due.due("two at one hour: the second behind its move", x.serve(2, 0), 2);
        Due.due("two at the last hour", x.serve(1, 0), Due.NONE);
    }

    private static void serveNone() {
        Due.sentence("Promise 31", "NONE: none.");
        OneMatch x = Due.struck("v0h90-h030", 0);
        Due.lay(x, 3, 4, 4, 4);
        Due.due("it can't", x.serve(4, 3), Due.NONE);
        Due.rowIs(x, "the row stays", 3, 4, 4, 4);
        Due.due("no row by none", x.serve(4, 4), Due.NONE);
        Due.due("rows", x.count(6), 1);
        x = Due.village("v0h905");
        Due.due("nothing burns, nothing needed by hour 4", x.serve(4, 0), 0);
        Due.rowIs(x, "nothing to carry", 0, NO, NO, NO, NO);
        x.hour();
        Due.due("nothing burns, needed at hour 5", x.serve(4, 0), Due.NONE);
        Due.due("by hour 4", x.serve(3, 0), 0);
    }

    private static void serveRefused() {
        Due.sentence("Promise 31", "BAD; STATE: no HOUSES.");
        OneMatch[] both = {new OneMatch(), Due.village("v0h10-")};
        for (OneMatch x : both) {
            for (int n : NO_HOURS) {
                Due.due("hours " + n, x.serve(n, 0), Due.BAD);
            }
            for (int r : NO_ROWS) {
                Due.due("row " + r, x.serve(0, r), Due.BAD);
            }
            Due.due("no row by these", x.count(6), 0);
        }
        Due.due("no houses", both[0].serve(0, 0), Due.STATE);
        Due.due("no houses, the last ones", both[0].serve(4, 5), Due.STATE);
    }

    private static void runTold() {
        Due.sentence("Promise 32", "HOUSES (bits) that BURN behind it; the WOOD left by asked().");
        OneMatch x = Due.struck("v0h20-d30-h90-", 0);
        x.row(0, 0);
        Due.both(x, "no moves", x.run(0), 1, 14);
        Due.lay(x, 0, 1);
        Due.both(x, "one move", x.run(0), 3, 14 - 1 - 2);
        Due.lay(x, 0, 1, 8);
        Due.both(x, "two moves, two go out", x.run(0), 4, 8);
        x.row(0, 1);
        x.lay(0, 0, NO);
        Due.both(x, "none", x.run(0), 1, 13);
    }

    private static void runTenMoves() {
        Due.sentence("Promise 32", "A PLAN in a ROW (10 MOVES at most;");
        OneMatch x = Due.struck("v0t90-h90-", 0);
        int[] sizes = {9, 10, 11, 40};
        for (int n : sizes) {
            Due.lay(x, 0, onlyAt(n, n - 1, 1));
            if (n <= 10) {
                Due.both(x, "moves " + n, x.run(0), 3, 18 - 3 - 1);
            } else {
                Due.found(x, "moves " + n, x.run(0), Due.SIZE);
            }
        }
        x.undo(0);
        Due.hours(x, 39);
        x.strike(0);
        Due.lay(x, 0, onlyAt(10, 0, 1));
        Due.both(x, "on behind the 40th deed", x.run(0), 1, 18 - 3 - 9);
    }

    private static void runMoveThatCannotBe() {
        Due.sentence("Promise 32", "a MOVE that can't be is none)");
        OneMatch x = Due.struck("v1h90-h91-h90-h90-h00-", 0);
        for (int move = 0; move <= NO; move++) {
            Due.lay(x, 0, move);
            int want = move == 2 ? 1 | 4 : 1;
            Due.both(x, "move " + move, x.run(0), want, move == 2 ? 34 : 35);
        }
        x.carry(0, 2);
        Due.lay(x, 0, 15, 15);
        Due.both(x, "carried in this hour, then it can be", x.run(0), 1 | 4 | 8, 36 - 2 - 3);
    }

    private static void runRefused() {
        Due.sentence("Promise 32", "BAD; STATE: no HOUSES; NOTHING; SIZE: more than 10; UNLIKE: no MOVE (0 .. 36)."
                + " (In this order.)");
        OneMatch x = new OneMatch();
        for (int r : NO_ROWS) {
            Due.due("no houses, row " + r, x.run(r), Due.BAD);
        }
        Due.due("no houses, missing", x.run(0), Due.STATE);
        x.row(0, 11);
        x.lay(0, 0, 37);
        Due.due("no houses, too many, unlike", x.run(0), Due.STATE);
        Due.due("no finding", x.finding(), 0);
        Due.write(x, 0, "v0h90-");
        x.village(0);
        for (int r : NO_ROWS) {
            Due.due("row " + r, x.run(r), Due.BAD);
        }
        Due.found(x, "missing", x.run(5), Due.NOTHING);
        Due.found(x, "too many, unlike", x.run(0), Due.SIZE);
        int[] noMoves = {-1, 37, LEAST, MOST};
        for (int move : noMoves) {
            Due.lay(x, 0, NO, NO, NO, NO, NO, NO, NO, NO, NO, move);
            Due.found(x, "the tenth is " + move, x.run(0), Due.UNLIKE);
            Due.lay(x, 0, move);
            Due.found(x, "the only one is " + move, x.run(0), Due.UNLIKE);
        }
        Due.lay(x, 0, 0, 36);
        Due.both(x, "0 and 36", x.run(0), 0, 9);
    }
}
