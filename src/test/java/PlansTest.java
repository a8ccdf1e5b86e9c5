/** Promises 27 to 32: PLANS. */
public final class PlansTest {
    public static void main(String[] args) {
        can();
        plan();
        ways();
        most();
        serve();
        run();
        Due.finish("PlansTest");
    }

    private static void can() {
        OneMatch x = new OneMatch();
        Due.due("without houses", x.can(4), 0);
        Due.due("5", x.can(5), Due.BAD);
        Due.due("-1", x.can(-1), Due.BAD);
        x = Due.village("v2 h20- h40- h40- h40- h40-");
        Due.due("nothing struck", x.can(4), 0);
        x.strike(0);
        Due.due("now", x.can(0), 1);
        Due.due("an hour on", x.can(1), 3);
        Due.due("two hours on, the first is out", x.can(2), 6);
        Due.due("three hours on", x.can(3), 14);
        Due.due("four hours on", x.can(4), 30);
        x.carry(0, 1);
        Due.due("carried: no move in this hour", x.can(1), 3);
        Due.due("aside", x.count(3), 2);
    }

    private static void plan() {
        OneMatch x = Due.village("v0 h90- h90- h90- h20- h93-");
        x.strike(0);
        Due.due("the house itself, first plan", x.plan(0, 1, 3), 1);
        Due.rowIs(x, "moves first, none last", 3, 1);
        Due.due("four hours", x.plan(0, 4, 3), 3);
        Due.rowIs(x, "as many moves as can be", 3, 1, 2, 3, Due.NO_MOVE);
        Due.due("house 3 behind two", x.plan(3, 2, 3), 2);
        Due.rowIs(x, "carried in the second", 3, 1, 3);
        Due.due("a wet one: none", x.plan(4, 2, 3), Due.NONE);
        Due.rowIs(x, "the row stays", 3, 1, 3);
        Due.due("no hours", x.plan(0, 0, 3), 0);
        Due.rowIs(x, "the row anew", 3);
        Due.due("no hours, none", x.plan(1, 0, 4), Due.NONE);
        Due.due("no row by none", x.count(6), 1);
        x.carry(0, 2);
        Due.due("carried in this hour", x.plan(1, 2, 4), 1);
        Due.rowIs(x, "the first move is none", 4, Due.NO_MOVE, 1);
        Due.due("house 5", x.plan(5, 1, 0), Due.BAD);
        Due.due("house -1", x.plan(-1, 1, 0), Due.BAD);
        Due.due("5 hours", x.plan(0, 5, 0), Due.BAD);
        Due.due("-1 hours", x.plan(0, -1, 0), Due.BAD);
        Due.due("row 6", x.plan(0, 1, 6), Due.BAD);
        Due.due("row -1", x.plan(0, 1, -1), Due.BAD);
        Due.due("without houses", new OneMatch().plan(0, 1, 0), Due.BAD);
    }

    private static void ways() {
        OneMatch x = Due.village("v0 h90- h90- h90-");
        Due.chance(x, "nothing burns", x.ways(0, 4), 1, 1);
        Due.due("none of these", x.asked(), 0);
        x.strike(0);
        Due.chance(x, "no hours", x.ways(0, 0), 1, 1);
        Due.due("it burns", x.asked(), 1);
        Due.chance(x, "an hour", x.ways(2, 1), 3, 1);
        Due.due("one of three", x.asked(), 1);
        // behind one of 2 MOVES 2 x 1 + 1 go on, behind none 2 + 1
        Due.chance(x, "two hours", x.ways(2, 2), 9, 1);
        Due.due("six of nine", x.asked(), 6);
        x.carry(0, 1);
        Due.chance(x, "carried", x.ways(2, 1), 1, 1);
        Due.due("not then", x.asked(), 0);
        Due.due("house 3", x.ways(3, 1), Due.BAD);
        Due.due("house -1", x.ways(-1, 1), Due.BAD);
        Due.due("5 hours", x.ways(0, 5), Due.BAD);
        Due.due("-1 hours", x.ways(0, -1), Due.BAD);
        Due.due("upper behind refusals", x.upper(), 1);
    }

    private static void most() {
        OneMatch x = new OneMatch();
        Due.due("without houses", x.most(1, 0), Due.STATE);
        Due.due("bad first: hours", x.most(5, 0), Due.BAD);
        Due.due("bad first: row", x.most(1, 6), Due.BAD);
        x = Due.village("v0 h90- d10- h10- h20- h90-");
        Due.due("nothing burns", x.most(2, 5), 0);
        Due.rowIs(x, "nothing to carry", 5, Due.NO_MOVE, Due.NO_MOVE);
        x.strike(0);
        Due.due("no hours", x.most(0, 5), 1);
        Due.rowIs(x, "no moves", 5);
        Due.due("an hour", x.most(1, 5), 2);
        Due.rowIs(x, "one that lasts", 5, 3);
        Due.due("two hours", x.most(2, 5), 2);
        Due.rowIs(x, "the first such plan", 5, 1, 3);
        Due.due("-1 hours", x.most(-1, 5), Due.BAD);
        Due.due("row -1", x.most(1, -1), Due.BAD);
    }

    private static void serve() {
        OneMatch x = new OneMatch();
        Due.due("without houses", x.serve(1, 0), Due.STATE);
        Due.due("bad first: hours", x.serve(5, 0), Due.BAD);
        Due.due("bad first: row", x.serve(1, -1), Due.BAD);
        x = Due.village("v0 h40- h400 h402 d203 h90-");
        Due.due("needed now, not burning", x.serve(0, 1), Due.NONE);
        Due.due("no row by none", x.count(6), 0);
        x.strike(0);
        Due.due("no hours: no move either", x.serve(0, 1), Due.NONE);
        Due.due("an hour: behind its move", x.serve(1, 1), 1);
        Due.rowIs(x, "at once", 1, 1);
        Due.due("two hours", x.serve(2, 1), 2);
        Due.rowIs(x, "the last hour as it is then", 1, 1, 2);
        Due.due("three hours: the draught is out by then", x.serve(3, 1), Due.NONE);
        Due.rowIs(x, "the row stays", 1, 1, 2);
        Due.due("four hours: behind the move of its hour", x.serve(4, 1), 4);
        Due.rowIs(x, "the draught no earlier", 1, 1, 2, 10, 3);
        x.hour();
        Due.due("its hour is gone by", x.serve(1, 1), 1);
        Due.rowIs(x, "only those from this hour on", 1, 2);
        x = Due.village("v0 h100 h90-");
        x.strike(0);
        Due.due("needed at this hour, out at its end", x.serve(4, 1), 1);
        x = Due.village("v0 h101 h90-");
        x.strike(0);
        Due.due("no hours: needed later", x.serve(0, 1), 0);
        Due.due("out ahead of its hour", x.serve(1, 1), Due.NONE);
        x = Due.village("v0 h900 h900");
        x.strike(0);
        x.carry(0, 1);
        Due.due("carried in this hour", x.serve(2, 1), 0);
        Due.rowIs(x, "nothing more", 1, Due.NO_MOVE, Due.NO_MOVE);
    }

    private static void run() {
        OneMatch x = new OneMatch();
        Due.due("without houses", x.run(0), Due.STATE);
        Due.due("bad first", x.run(6), Due.BAD);
        Due.due("row -1", x.run(-1), Due.BAD);
        x = Due.village("v0 h90- h90- h90- h90- h90-");
        x.strike(0);
        Due.found(x, "a missing row", x.run(0), Due.NOTHING);
        x.row(0, 0);
        Due.both(x, "no moves", x.run(0), 1, 45);
        Due.lay(x, 0, 1, 8, Due.NO_MOVE);
        Due.both(x, "three hours", x.run(0), 7, 45 - 3 - 3 - 2);
        Due.lay(x, 0, 4, 0, 30, 35, 5, 13);
        Due.both(x, "moves that can't be", x.run(0), 1, 45 - 6);
        Due.lay(x, 0, 36, 36, 36, 36, 36, 36, 36, 36, 36, 36);
        Due.both(x, "ten", x.run(0), 0, 36);
        x.row(0, 11);
        Due.found(x, "eleven", x.run(0), Due.SIZE);
        Due.lay(x, 0, 99, 99);
        x.row(0, 1);
        Due.both(x, "only the row's own places", x.run(0), 1, 44);
        x.row(0, 11);
        Due.lay(x, 0, 36, 37);
        Due.found(x, "37", x.run(0), Due.UNLIKE);
        Due.lay(x, 0, 36, -1);
        Due.found(x, "-1", x.run(0), Due.UNLIKE);
        x.row(0, 11);
        x.lay(0, 0, 99);
        Due.found(x, "size ahead of unlike", x.run(0), Due.SIZE);
        Due.due("asked by lay, not by refusals", x.asked(), 0);
        x.carry(0, 3);
        Due.lay(x, 0, 1, 1);
        Due.both(x, "carried: the first move can't be", x.run(0), 1 | 2 | 8, 45 - 2 - 3);
        Due.due("aside", x.count(1), 0);
        Due.due("aside, wood", x.count(4), 45);
    }
}
