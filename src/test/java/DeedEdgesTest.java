/** The edges that section 2 and promises 16 to 21 name: DEEDS, undone, kept. */
public final class DeedEdgesTest {
    private static final int LEAST = Integer.MIN_VALUE, MOST = Integer.MAX_VALUE;

    public static void main(String[] args) {
        atFirst();
        struckOnce();
        carriedOnceAnHour();
        reachByWind();
        woodOfAnHour();
        noMoreThanThereIs();
        peatInOddHours();
        potByFours();
        goesOut();
        dries();
        nextHour();
        fortyDeeds();
        strikeRefused();
        strikeFullLast();
        carryTells();
        carryRefused();
        carryFullLast();
        hourTells();
        hourRefused();
        undoFrom();
        undoRefused();
        keepTells();
        keepRefused();
        onAsKept();
        onRefused();
        Due.finish("DeedEdgesTest");
    }

    private static void atFirst() {
        Due.sentence("Terms", "HOUR 0 is at first, nothing BURNS, nobody has STRUCK the match.");
        OneMatch x = Due.village("v0h900i90-");
        Due.due("hour", x.count(1), 0);
        Due.due("struck", x.count(2), 0);
        Due.due("fires", x.fires(), 0);
        Due.due("no embers", x.carry(0, 1), Due.STATE);
    }

    private static void struckOnce() {
        Due.sentence("Terms", "Once it is STRUCK in a HOUSE that CATCHES: that BURNS.");
        for (int h = 0; h < 5; h++) {
            OneMatch x = Due.struck("v0 h10- h10- h10- h10- h10-", h);
            Due.due("it burns alone", x.fires(), 1 << h);
            Due.due("not once more", x.strike((h + 1) % 5), Due.STATE);
            x.hour();
            Due.due("all is dark", x.fires(), 0);
            Due.due("not when it is out either", x.strike((h + 1) % 5), Due.STATE);
        }
    }

    private static void carriedOnceAnHour() {
        Due.sentence("Terms", "EMBERS are CARRIED in an HOUR, once at most, from a HOUSE that BURNS to one that does"
                + " not, and CATCHES,");
        OneMatch x = Due.struck("v0 h90- h90- h91- h90- h00-", 1);
        Due.due("from one that does not burn", x.carry(0, 3), Due.STATE);
        Due.due("to a wet one", x.carry(1, 2), Due.STATE);
        Due.due("to one without wood", x.carry(1, 4), Due.STATE);
        Due.due("first", x.carry(1, 0), 2);
        Due.due("second in this hour", x.carry(1, 3), Due.STATE);
        Due.due("from the other one", x.carry(0, 3), Due.STATE);
        x.hour();
        Due.due("to one that burns", x.carry(1, 0), Due.STATE);
        Due.due("in the next hour", x.carry(0, 3), 3);
        x.undo(3);
        Due.due("undone, once again", x.carry(1, 2), 3);
        Due.due("once only", x.carry(1, 3), Due.STATE);
    }

    private static void reachByWind() {
        Due.sentence("Terms", "no more than REACH houses on along the lane: 3 less the WIND of the HOUR: that BURNS,"
                + " too.");
        for (int wind = 0; wind <= 2; wind++) {
            for (int from = 0; from < 5; from++) {
                for (int to = 0; to < 5; to++) {
                    OneMatch x = Due.struck("v" + wind + "h90-h90-h90-h90-h90-", from);
                    int far = Math.abs(from - to);
                    int want = far == 0 ? Due.BAD : far <= 3 - wind ? 2 : Due.STATE;
                    Due.due("wind " + wind + ", " + from + " to " + to, x.carry(from, to), want);
                    Due.due("fires", x.fires(), want == 2 ? 1 << from | 1 << to : 1 << from);
                }
            }
        }
        OneMatch x = Due.struck("v20t90-t90-t90-t90-", 0);
        Due.due("the wind of hour 0", x.reach(), 2);
        x.hour();
        Due.due("the wind of hour 1", x.reach(), 14);
        x.hour();
        Due.due("the first wind again", x.reach(), 2);
    }

    private static int woodBehind(String text, int waited, int burnt) {
        OneMatch x = Due.village(text);
        Due.hours(x, waited);
        x.strike(0);
        Due.hours(x, burnt);
        return Due.fact(x, 0, 1);
    }

    private static void woodOfAnHour() {
        Due.sentence("Terms", "An HOUR goes by: what BURNS takes 1 WOOD;");
        String[] plain = {"v0h90-", "v0s91-", "v0i93-"};
        for (String text : plain) {
            for (int hour = 0; hour <= 4; hour++) {
                Due.due(text + " at hour " + hour, woodBehind(text, hour, 1), 8);
            }
            Due.due(text + " nine hours", woodBehind(text, 0, 9), 0);
        }
        OneMatch x = Due.village("v0h90-");
        x.hour();
        Due.due("what does not burn takes none", x.count(4), 9);
    }

    private static void noMoreThanThereIs() {
        Due.sentence("Terms", "a DRAUGHT 2 (no more than there is);");
        int[] left = {0, 0, 0, 1, 2, 3, 4, 5, 6, 7};
        for (int wood = 1; wood <= 9; wood++) {
            for (int hour = 0; hour <= 1; hour++) {
                Due.due("of " + wood, woodBehind("v0d" + wood + "0-", hour, 1), left[wood]);
            }
        }
    }

    private static void peatInOddHours() {
        Due.sentence("Terms", "a PEAT (POT, too) none in an odd HOUR;");
        for (int hour = 0; hour <= 5; hour++) {
            Due.due("peat at hour " + hour, woodBehind("v0p90-", hour, 1), hour % 2 == 0 ? 8 : 9);
        }
        Due.due("pot at hour 1", woodBehind("v0t90-", 1, 1), 9);
        Due.due("pot at hour 3", woodBehind("v0t90-", 3, 1), 9);
    }

    private static void potByFours() {
        Due.sentence("Terms", "a POT only in HOURS that 4 divides;");
        for (int hour = 0; hour <= 12; hour++) {
            Due.due("pot at hour " + hour, woodBehind("v0t90-", hour, 1), hour % 4 == 0 ? 8 : 9);
        }
    }

    private static void goesOut() {
        Due.sentence("Terms", "what has no WOOD then goes out;");
        OneMatch x = Due.struck("v0h20-d30-p10-", 0);
        x.carry(0, 1);
        Due.due("with one left both burn", x.hour(), 2);
        Due.due("without wood both are out", x.hour(), 0);
        x = Due.village("v0p10-");
        x.hour();
        x.strike(0);
        Due.due("a peat of 1 in an odd hour", x.hour(), 1);
        Due.due("a peat of 1 in an even hour", x.hour(), 0);
        x = Due.village("v0t10-");
        x.hour();
        x.strike(0);
        Due.hours(x, 3);
        Due.due("a pot of 1 till hour 4", x.fires(), 1);
        Due.due("a pot of 1 in hour 4", x.hour(), 0);
    }

    private static void wetsAre(OneMatch x, String what, int... wets) {
        for (int h = 0; h < wets.length; h++) {
            Due.due(what + ": wet of " + h, Due.fact(x, h, 2), wets[h]);
        }
    }

    private static void dries() {
        Due.sentence("Terms", "each that does not BURN beside one that did (the next one along the lane, either side;"
                + " as it was ahead of the HOUR's end) has 1 less WET, 0 at least.");
        for (int h = 0; h < 5; h++) {
            String[] houses = {"h93-", "h93-", "h93-", "h93-", "h93-"};
            houses[h] = "i93-";
            OneMatch x = Due.struck("v0" + String.join("", houses), h);
            x.hour();
            int[] wets = {3, 3, 3, 3, 3};
            for (int k = 0; k < 5; k++) {
                wets[k] -= Math.abs(h - k) == 1 ? 1 : 0;
            }
            wetsAre(x, "fire in " + h + ", none at the lane's other end", wets);
        }
        OneMatch x = Due.struck("v0h91-i13-h92-", 1);
        x.hour();
        wetsAre(x, "it burnt ahead of the end, though it is out", 0, 3, 1);
        x.hour();
        wetsAre(x, "nothing burnt ahead of this end", 0, 3, 1);
        x = Due.struck("v0h91-h90-h90-", 1);
        Due.hours(x, 3);
        wetsAre(x, "0 at least", 0, 0, 0);
        x = Due.struck("v0h90-h93-h90-", 0);
        x.carry(0, 2);
        x.hour();
        wetsAre(x, "1 less, though both beside it burn", 0, 2, 0);
        x = Due.struck("v0h90-i93-", 0);
        x.carry(0, 1);
        x.hour();
        wetsAre(x, "what burns keeps its wet", 0, 3);
        // NOTES.md: "does not BURN" is read as it was ahead of the HOUR's end, like "did"
        x = Due.struck("v0h90-i13-h92-", 0);
        x.carry(0, 1);
        x.hour();
        Due.due("one of the two goes out", x.fires(), 1);
        wetsAre(x, "what burnt till the end keeps its wet, though it is out", 0, 3, 1);
        x.hour();
        wetsAre(x, "behind the next end it has dried", 0, 2, 1);
    }

    private static void nextHour() {
        Due.sentence("Terms", "Then it is the next HOUR.");
        OneMatch x = Due.village("v0h10-");
        for (int hour = 0; hour < 40; hour++) {
            Due.due("the hour", x.count(1), hour);
            x.hour();
        }
        Due.due("the last hour", x.count(1), 40);
        x.hour();
        Due.due("a refused one", x.count(1), 40);
    }

    private static void fortyDeeds() {
        Due.sentence("Terms", "STRIKING, CARRYING, HOURS are DEEDS (40 at most).");
        OneMatch x = Due.struck("v0t90-t90-", 0);
        Due.due("striking", x.count(3), 1);
        x.carry(0, 1);
        Due.due("carrying", x.count(3), 2);
        x.hour();
        Due.due("an hour", x.count(3), 3);
        Due.hours(x, 36);
        Due.due("39", x.count(3), 39);
        Due.holds("the 40th", x.hour() >= 0);
        Due.due("40", x.count(3), 40);
        Due.due("the 41st", x.hour(), Due.FULL);
        Due.due("40 still", x.count(3), 40);
    }

    private static void strikeRefused() {
        Due.sentence("Promise 16", "BAD; STATE: it was, or it does not CATCH; FULL: 40 DEEDS.");
        OneMatch x = new OneMatch();
        Due.due("no houses", x.strike(0), Due.BAD);
        x = Due.village("v0h90-h91-h00-");
        int[] noHouse = {-1, 3, 5, LEAST, MOST};
        for (int h : noHouse) {
            Due.due("house " + h, x.strike(h), Due.BAD);
        }
        Due.due("wet", x.strike(1), Due.STATE);
        Due.due("no wood", x.strike(2), Due.STATE);
        Due.hours(x, 40);
        Due.due("40 deeds", x.strike(0), Due.FULL);
        x.undo(39);
        Due.due("39 deeds", x.strike(0), 1);
        Due.due("it was", x.strike(0), Due.STATE);
        Due.due("struck", x.count(2), 1);
        x.undo(39);
        Due.due("undone", x.count(2), 0);
        Due.due("anew", x.strike(0), 1);
    }

    private static void strikeFullLast() {
        Due.sentence("Promise 16", "(FULL last.)");
        OneMatch x = Due.village("v0h90-h91-");
        Due.hours(x, 40);
        Due.due("bad and full", x.strike(2), Due.BAD);
        Due.due("state and full: wet", x.strike(1), Due.STATE);
        Due.due("full", x.strike(0), Due.FULL);
        x.undo(0);
        x.strike(0);
        Due.hours(x, 39);
        Due.due("state and full: it was", x.strike(0), Due.STATE);
    }

    private static void carryTells() {
        Due.sentence("Promise 17", "EMBERS are CARRIED: how many HOUSES BURN then.");
        OneMatch x = Due.struck("v0t90-t90-t90-t90-t90-", 0);
        for (int k = 1; k < 5; k++) {
            Due.due("the house " + k, x.carry(k - 1, k), k + 1);
            x.hour();
        }
        Due.due("all burn", x.fires(), 31);
        Due.due("nowhere to carry", x.carry(0, 1), Due.STATE);
    }

    private static void carryRefused() {
        Due.sentence("Promise 17", "BAD: also the same; STATE: they can't be; FULL.");
        OneMatch x = new OneMatch();
        Due.due("no houses", x.carry(0, 1), Due.BAD);
        x = Due.village("v0t90-t90-t90-");
        Due.hours(x, 30);
        x.strike(1);
        int[] noHouse = {-1, 3, 5, LEAST, MOST};
        for (int h : noHouse) {
            Due.due("from " + h, x.carry(h, 0), Due.BAD);
            Due.due("to " + h, x.carry(1, h), Due.BAD);
        }
        for (int h = 0; h < 3; h++) {
            Due.due("the same " + h, x.carry(h, h), Due.BAD);
        }
        Due.due("from one that does not burn", x.carry(0, 2), Due.STATE);
        Due.hours(x, 9);
        Due.due("40 deeds", x.carry(1, 2), Due.FULL);
        x.undo(39);
        Due.due("39 deeds", x.carry(1, 2), 2);
    }

    private static void carryFullLast() {
        Due.sentence("Promise 17", "(FULL last.)");
        OneMatch x = Due.village("v0t90-t91-t90-");
        Due.hours(x, 30);
        x.strike(2);
        Due.hours(x, 9);
        Due.due("bad and full", x.carry(2, 2), Due.BAD);
        Due.due("state and full: it does not burn", x.carry(0, 2), Due.STATE);
        Due.due("full", x.carry(2, 0), Due.FULL);
        Due.due("refused, it does not burn", x.fires(), 4);
        x.undo(38);
        x.hour();
        x.carry(2, 0);
        Due.due("state and full: carried in this hour", x.carry(2, 1), Due.STATE);
    }

    private static void hourTells() {
        Due.sentence("Promise 18", "An HOUR goes by: how many HOUSES BURN then.");
        OneMatch x = Due.village("v0h10-h20-");
        Due.due("none", x.hour(), 0);
        x.strike(0);
        x.carry(0, 1);
        Due.due("one of two", x.hour(), 1);
        Due.due("none any more", x.hour(), 0);
    }

    private static void hourRefused() {
        Due.sentence("Promise 18", "STATE: no HOUSES; FULL. (FULL last.)");
        OneMatch x = new OneMatch();
        Due.due("no houses", x.hour(), Due.STATE);
        Due.due("no hour by it", x.count(1), 0);
        x = Due.village("v0h10-");
        for (int i = 0; i < 40; i++) {
            Due.due("deed " + i, x.hour(), 0);
        }
        Due.due("40 deeds", x.hour(), Due.FULL);
        x.undo(39);
        Due.due("39 deeds", x.hour(), 0);
        Due.due("full again", x.hour(), Due.FULL);
    }

    private static void undoFrom() {
        Due.sentence("Promise 19", "DEEDS from number n on are undone: how many.");
        OneMatch x = Due.village("v0h90-h91-h90-");
        long first = x.digest();
        x.strike(0);
        long struck = x.digest();
        x.carry(0, 2);
        long carried = x.digest();
        x.hour();
        x.carry(2, 1);
        x.hour();
        Due.due("from 5 on: none", x.undo(5), 0);
        Due.due("from 4 on: the last one", x.undo(4), 1);
        Due.due("deeds then", x.count(3), 4);
        Due.due("all three burn", x.fires(), 7);
        Due.due("from 2 on", x.undo(2), 2);
        Due.due("as behind two", x.digest(), carried);
        Due.due("carried in this hour", x.reach(), 0);
        Due.due("from 1 on", x.undo(1), 1);
        Due.due("as behind one", x.digest(), struck);
        Due.due("nothing carried in this hour", x.reach(), 4);
        Due.due("from 0 on", x.undo(0), 1);
        Due.due("as at first", x.digest(), first);
        Due.due("nothing is left", x.undo(0), 0);
        Due.hours(x, 40);
        Due.due("from 40 on: none", x.undo(40), 0);
        Due.due("all 40", x.undo(0), 40);
    }

    private static void undoRefused() {
        Due.sentence("Promise 19", "BAD.");
        OneMatch x = new OneMatch();
        int[] none = {-1, 1, LEAST, MOST};
        for (int n : none) {
            Due.due("without houses, " + n, x.undo(n), Due.BAD);
        }
        Due.due("without houses, 0", x.undo(0), 0);
        x = Due.struck("v0h90-", 0);
        x.hour();
        Due.due("-1", x.undo(-1), Due.BAD);
        Due.due("3 of 2", x.undo(3), Due.BAD);
        Due.due("least", x.undo(LEAST), Due.BAD);
        Due.due("most", x.undo(MOST), Due.BAD);
        Due.due("nothing undone", x.count(3), 2);
        Due.due("2 of 2", x.undo(2), 0);
        Due.due("1 of 2", x.undo(1), 1);
        Due.due("2 of 1", x.undo(2), Due.BAD);
    }

    private static void keepTells() {
        Due.sentence("Promise 20", "The VILLAGE (as it is, WOOD, DEEDS) is kept in a place (0 .. 2): how many DEEDS.");
        OneMatch x = Due.village("v0h90-");
        for (int k = 0; k <= 2; k++) {
            Due.due("keep " + k, x.keep(k), k);
            Due.due("kept", x.count(8), k + 1);
            x.hour();
        }
        Due.due("over another", x.keep(0), 3);
        Due.due("three are kept", x.count(8), 3);
        Due.hours(x, 37);
        Due.due("40 deeds", x.keep(1), 40);
        x.undo(0);
        Due.due("on with 40", x.on(1), 40);
        Due.due("the hour", x.count(1), 40);
    }

    private static void keepRefused() {
        Due.sentence("Promise 20", "BAD; STATE: no HOUSES.");
        int[] none = {-1, 3, LEAST, MOST};
        OneMatch x = new OneMatch();
        for (int k : none) {
            Due.due("without houses, place " + k, x.keep(k), Due.BAD);
        }
        for (int k = 0; k <= 2; k++) {
            Due.due("without houses, place " + k, x.keep(k), Due.STATE);
        }
        Due.due("nothing is kept", x.count(8), 0);
        x = Due.village("v0h90-");
        for (int k : none) {
            Due.due("place " + k, x.keep(k), Due.BAD);
        }
        Due.due("place 2", x.keep(2), 0);
    }

    private static void onAsKept() {
        Due.sentence("Promise 21", "The VILLAGE is as it was kept: how many DEEDS.");
        OneMatch x = Due.village("v0h90-h91-t90-");
        x.stack(2, 5);
        x.strike(0);
        x.carry(0, 2);
        x.keep(1);
        x.undo(0);
        x.stack(2, 7);
        x.keep(0);
        x.hour();
        Due.due("on 1", x.on(1), 2);
        Due.due("fires", x.fires(), 5);
        Due.due("carried in this hour", x.reach(), 0);
        Due.due("undone one", x.undo(1), 1);
        Due.due("then it can be carried", x.reach(), 4);
        Due.due("undone all", x.undo(0), 1);
        Due.due("wood at first as it was kept", Due.fact(x, 2, 1), 5);
        Due.due("on 0", x.on(0), 0);
        Due.due("wood at first of this one", Due.fact(x, 2, 1), 7);
        x.stack(2, 1);
        Due.due("on 0 again", x.on(0), 0);
        Due.due("what is kept stays", Due.fact(x, 2, 1), 7);
        Due.due("both are kept", x.count(8), 2);
    }

    private static void onRefused() {
        Due.sentence("Promise 21", "BAD; NOTHING.");
        int[] none = {-1, 3, LEAST, MOST};
        OneMatch x = new OneMatch();
        for (int k : none) {
            Due.due("place " + k, x.on(k), Due.BAD);
        }
        for (int k = 0; k <= 2; k++) {
            Due.found(x, "nothing in " + k, x.on(k), Due.NOTHING);
        }
        x = Due.village("v0h90-");
        x.keep(1);
        Due.found(x, "ahead of it", x.on(0), Due.NOTHING);
        Due.due("the kept one", x.on(1), 0);
        Due.found(x, "behind it", x.on(2), Due.NOTHING);
    }
}
