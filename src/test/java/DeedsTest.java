/** Promises 16 to 21, and how an HOUR goes by. */
public final class DeedsTest {
    public static void main(String[] args) {
        strike();
        carry();
        reachByWind();
        woodTaken();
        drying();
        hour();
        undo();
        keepAndOn();
        Due.finish("DeedsTest");
    }

    private static void strike() {
        OneMatch x = Due.village("v0 h10- h11- s11- s12- i13-");
        Due.due("a wet house", x.strike(1), Due.STATE);
        Due.due("a stove too wet", x.strike(3), Due.STATE);
        Due.due("a damp stove", x.strike(2), 1);
        Due.due("struck", x.count(2), 1);
        Due.due("it burns", x.fires(), 4);
        Due.due("twice", x.strike(0), Due.STATE);
        Due.due("house 5", x.strike(5), Due.BAD);
        Due.due("house -1", x.strike(-1), Due.BAD);
        x.undo(0);
        Due.due("a wet tile", x.strike(4), 1);
        x.undo(0);
        x.stack(0, 0);
        Due.due("without wood", x.strike(0), Due.STATE);
        x.hour();
        x.hour();
        Due.due("at a later hour", x.strike(2), 1);
        x.undo(0);
        for (int i = 0; i < 40; i++) {
            x.hour();
        }
        Due.due("full", x.strike(2), Due.FULL);
        Due.due("state ahead of full", x.strike(1), Due.STATE);
        Due.due("bad ahead of full", x.strike(5), Due.BAD);
        Due.due("not struck by refusals", x.count(2), 0);
        x.undo(39);
        Due.due("the 40th deed", x.strike(2), 1);
    }

    private static void carry() {
        OneMatch x = Due.village("v0 h90- h91- h90- h90- h90-");
        Due.due("nothing burns", x.carry(0, 2), Due.STATE);
        x.strike(0);
        Due.due("to a wet one", x.carry(0, 1), Due.STATE);
        Due.due("too far", x.carry(0, 4), Due.STATE);
        Due.due("from one that does not burn", x.carry(2, 3), Due.STATE);
        Due.due("the same", x.carry(0, 0), Due.BAD);
        Due.due("house 5", x.carry(0, 5), Due.BAD);
        Due.due("from house 5", x.carry(5, 0), Due.BAD);
        Due.due("from house -1", x.carry(-1, 0), Due.BAD);
        Due.due("to house -1", x.carry(0, -1), Due.BAD);
        Due.due("three on", x.carry(0, 3), 2);
        Due.due("deeds", x.count(3), 2);
        Due.due("once an hour", x.carry(3, 2), Due.STATE);
        x.hour();
        Due.due("to one that burns", x.carry(0, 3), Due.STATE);
        Due.due("back along the lane", x.carry(3, 1), 3);
        x = Due.village("v0 t90- t90- t90-");
        for (int i = 0; i < 31; i++) {
            x.hour();
        }
        x.strike(0);
        for (int i = 0; i < 8; i++) {
            x.hour();
        }
        Due.due("40 deeds", x.count(3), 40);
        Due.due("full", x.carry(0, 1), Due.FULL);
        Due.due("state ahead of full", x.carry(1, 2), Due.STATE);
        Due.due("bad ahead of full", x.carry(1, 1), Due.BAD);
        Due.due("reach is told all the same", x.reach(), 6);
        x.undo(39);
        Due.due("the 40th deed", x.carry(0, 1), 2);
    }

    private static void reachByWind() {
        OneMatch x = Due.village("v012 t90- t90- t90- t90-");
        x.strike(3);
        x.hour();
        Due.due("wind 1: three on", x.carry(3, 0), Due.STATE);
        Due.due("wind 1: two on", x.carry(3, 1), 2);
        x.undo(2);
        x.hour();
        Due.due("wind 2: two on", x.carry(3, 1), Due.STATE);
        Due.due("wind 2: the next", x.carry(3, 2), 2);
        x.undo(3);
        x.hour();
        Due.due("the first wind again", x.carry(3, 0), 2);
    }

    private static void woodIs(OneMatch x, String what, int... wood) {
        for (int h = 0; h < wood.length; h++) {
            Due.due(what + ": wood of " + h, Due.fact(x, h, 1), wood[h]);
        }
    }

    private static void woodTaken() {
        int[][] left = {{8, 7, 6, 5, 4}, {8, 8, 7, 7, 6}, {8, 7, 6, 5, 4}, {7, 5, 3, 1, 0}, {8, 8, 8, 8, 7}};
        String[] villages = {"v0h90-", "v0p90-", "v0s90-", "v0d90-", "v0t90-"};
        for (int v = 0; v < villages.length; v++) {
            OneMatch x = Due.village(villages[v]);
            x.strike(0);
            for (int i = 0; i < 5; i++) {
                Due.due(villages[v] + ", hour " + i, x.hour(), left[v][i] > 0 ? 1 : 0);
                woodIs(x, villages[v] + " behind hour " + i, left[v][i]);
            }
        }
        OneMatch x = Due.village("v0i93-");
        x.strike(0);
        x.hour();
        woodIs(x, "a tile", 8);
        x = Due.village("v0d10-");
        x.strike(0);
        Due.due("a draught of 1", x.hour(), 0);
        woodIs(x, "no more than there is", 0);
        x = Due.village("v0p10-");
        x.hour();
        x.strike(0);
        Due.due("a peat in an odd hour", x.hour(), 1);
        Due.due("a peat in an even hour", x.hour(), 0);
        x = Due.village("v0h30-");
        x.hour();
        woodIs(x, "what does not burn", 3);
    }

    private static void wetIs(OneMatch x, String what, int... wet) {
        for (int h = 0; h < wet.length; h++) {
            Due.due(what + ": wet of " + h, Due.fact(x, h, 2), wet[h]);
        }
    }

    private static void drying() {
        OneMatch x = Due.village("v0 h93- h93- h20- h93- h93-");
        x.strike(2);
        x.hour();
        wetIs(x, "beside, either side", 3, 2, 0, 2, 3);
        x.hour();
        Due.due("it went out", x.fires(), 0);
        wetIs(x, "it burnt ahead of the hour's end", 3, 1, 0, 1, 3);
        x.hour();
        wetIs(x, "nothing burns", 3, 1, 0, 1, 3);
        x = Due.village("v0 h90- h91- h90- i93-");
        x.strike(0);
        x.carry(0, 2);
        x.hour();
        wetIs(x, "once only, though both sides burn", 0, 0, 0, 2);
        x.carry(2, 3);
        x.hour();
        x.hour();
        wetIs(x, "0 at least; what burns keeps its wet", 0, 0, 0, 2);
        x = Due.village("v0 h90- s11- h90-");
        x.strike(1);
        x.carry(1, 0);
        x.hour();
        wetIs(x, "what burnt till the hour's end keeps its wet", 0, 1, 0);
    }

    private static void hour() {
        OneMatch x = new OneMatch();
        Due.due("hour without houses", x.hour(), Due.STATE);
        x = Due.village("v0h20-h20-");
        x.strike(0);
        x.carry(0, 1);
        Due.due("two burn", x.hour(), 2);
        Due.due("the next hour", x.count(1), 1);
        Due.due("both go out", x.hour(), 0);
        for (int i = 0; i < 36; i++) {
            Due.due("on and on", x.hour(), 0);
        }
        Due.due("40 deeds", x.count(3), 40);
        Due.due("full", x.hour(), Due.FULL);
        Due.due("hour 38", x.count(1), 38);
    }

    private static void undo() {
        OneMatch x = new OneMatch();
        Due.due("undo of none", x.undo(0), 0);
        Due.due("undo 1 of none", x.undo(1), Due.BAD);
        x = Due.village("v0 h93- h20- h90-");
        long first = x.digest();
        x.strike(1);
        x.hour();
        x.carry(1, 2);
        long middle = x.digest();
        x.hour();
        x.hour();
        Due.due("undo -1", x.undo(-1), Due.BAD);
        Due.due("undo 6", x.undo(6), Due.BAD);
        Due.due("undo 5: none", x.undo(5), 0);
        Due.due("undo 3", x.undo(3), 2);
        Due.due("as it was", x.digest(), middle);
        Due.due("carried in this hour", x.reach(), 0);
        Due.due("undo all", x.undo(0), 3);
        Due.due("as at first", x.digest(), first);
        Due.due("struck anew", x.strike(2), 1);
    }

    private static void keepAndOn() {
        OneMatch x = new OneMatch();
        Due.due("keep without houses", x.keep(0), Due.STATE);
        Due.due("keep in 3", x.keep(3), Due.BAD);
        Due.due("keep in -1", x.keep(-1), Due.BAD);
        Due.found(x, "on of none", x.on(2), Due.NOTHING);
        Due.due("on of 3", x.on(3), Due.BAD);
        Due.due("on of -1", x.on(-1), Due.BAD);
        x = Due.village("v0 h30- h30-");
        Due.due("keep at first", x.keep(0), 0);
        x.stack(0, 9);
        x.strike(0);
        x.carry(0, 1);
        Due.due("keep", x.keep(2), 2);
        Due.due("kept", x.count(8), 2);
        x.hour();
        x.hour();
        Due.due("on", x.on(2), 2);
        Due.due("hour as kept", x.count(1), 0);
        Due.due("wood as kept", x.count(4), 12);
        Due.due("carried as kept", x.reach(), 0);
        Due.due("deeds as kept", x.undo(1), 1);
        Due.due("one burns", x.fires(), 1);
        Due.due("on again", x.on(2), 2);
        Due.due("both burn", x.fires(), 3);
        Due.due("on to the first", x.on(0), 0);
        Due.due("wood ahead of stacking", x.count(4), 6);
        Due.due("not struck", x.count(2), 0);
        Due.due("stack goes again", x.stack(1, 1), 3);
        Due.due("what is kept stays", x.on(0), 0);
        Due.due("its wood too", x.count(4), 6);
        x.hour();
        Due.due("keep over it", x.keep(0), 1);
        Due.due("kept still", x.count(8), 2);
        x.on(2);
        x.undo(0);
        Due.due("stacked wood goes with the kept one", x.count(4), 12);
        Due.both(x, "where goes by it", x.where(), 3, 0);
    }
}
