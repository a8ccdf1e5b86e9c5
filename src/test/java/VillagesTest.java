/** Promises 8 to 15: TEXTS, VILLAGES, HOUSES. */
public final class VillagesTest {
    public static void main(String[] args) {
        text();
        put();
        fault();
        village();
        house();
        wind();
        mark();
        stack();
        Due.finish("VillagesTest");
    }

    private static void text() {
        OneMatch x = new OneMatch();
        Due.due("text", x.text(3, 2), 2);
        Due.due("blank 0", x.put(3, 0, 65), 1032);
        Due.due("blank 1", x.put(3, 1, 65), 1032);
        Due.due("text anew", x.text(3, 1), 1);
        Due.due("blank anew", x.put(3, 0, 65), 1032);
        Due.due("text of 60", x.text(0, 60), 60);
        Due.due("text of 61", x.text(0, 61), Due.BAD);
        Due.due("text of none", x.text(0, 0), 0);
        Due.due("texts there", x.count(7), 2);
        Due.due("text 4", x.text(4, 1), Due.BAD);
        Due.due("text -1", x.text(-1, -1), Due.BAD);
        Due.found(x, "text of -1", x.text(3, -1), Due.SIZE);
        Due.due("text stays", x.put(3, 0, 66), 1065);
    }

    private static void put() {
        OneMatch x = new OneMatch();
        Due.found(x, "put in a missing text", x.put(0, 0, 1), Due.NOTHING);
        x.text(0, 2);
        Due.due("put", x.put(0, 1, 200), 1032);
        Due.due("what it was is a byte", x.put(0, 1, 256 + 65), 1000 + 200 - 256);
        Due.due("cut to a byte", x.put(0, 1, -1), 1065);
        Due.due("put over -1", x.put(0, 1, 0), 999);
        Due.found(x, "put at 2", x.put(0, 2, 1), Due.BEYOND);
        Due.found(x, "put at -1", x.put(0, -1, 1), Due.BEYOND);
        Due.due("put in text 4", x.put(4, 0, 1), Due.BAD);
        Due.due("put in text -1", x.put(-1, 0, 1), Due.BAD);
    }

    private static void faultIs(String text, int want) {
        OneMatch x = new OneMatch();
        Due.write(x, 1, text);
        Due.due("fault of '" + text + "'", x.fault(1), want);
        Due.due("village of '" + text + "'", Math.min(0, x.village(1)), want == Due.NONE ? 0 : Due.STATE);
    }

    private static void fault() {
        faultIs("v0h10-", Due.NONE);
        faultIs("  v012012  h910   p039s11-d20-   t00-  ", Due.NONE);
        faultIs("v2i93-", Due.NONE);
        faultIs("", 0);
        faultIs("   ", 3);
        faultIs("x", 0);
        faultIs(" h10-", 1);
        faultIs("v", 1);
        faultIs("v ", 1);
        faultIs("v 0h10-", 1);
        faultIs("v3", 1);
        faultIs("v03", 2);
        faultIs("v0", 2);
        faultIs("v0   ", 5);
        faultIs("v0120120h10-", 7);
        faultIs("v0120123", 7);
        faultIs("v012012 0", 8);
        faultIs("v0 v0h10-", 3);
        faultIs("v0H10-", 2);
        faultIs("v0h", 3);
        faultIs("v0h-0-", 3);
        faultIs("v0h 10-", 3);
        faultIs("v0h1", 4);
        faultIs("v0h14-", 4);
        faultIs("v0h1 0-", 4);
        faultIs("v0h10", 5);
        faultIs("v0h10 ", 5);
        faultIs("v0h10x", 5);
        faultIs("v0h10-5", 6);
        faultIs("v0h10-h", 7);
        faultIs("v0h10-h10-h10-h10-h10-", Due.NONE);
        faultIs("v0h10-h10-h10-h10-h10- ", Due.NONE);
        faultIs("v0h10-h10-h10-h10-h10- h10-", 23);
        faultIs("v0h10-h10-h10-h10-h10-x", 22);
        OneMatch x = new OneMatch();
        Due.found(x, "fault of a missing text", x.fault(3), Due.NOTHING);
        Due.due("fault of text 4", x.fault(4), Due.BAD);
        Due.due("fault of text -1", x.fault(-1), Due.BAD);
        Due.write(x, 0, "v0h10-");
        x.put(0, 0, 118 - 256);
        Due.due("a byte is told cut", x.fault(0), Due.NONE);
    }

    private static void village() {
        OneMatch x = Due.village("v01h20-p319");
        Due.due("houses", x.count(0), 2);
        x.strike(0);
        x.hour();
        x.keep(0);
        x.keep(1);
        x.keep(2);
        Due.write(x, 1, "v0h10-h1");
        long before = x.digest();
        Due.due("village by a faulty text", x.village(1), Due.STATE);
        Due.found(x, "village by a missing text", x.village(2), Due.NOTHING);
        Due.due("village by text 4", x.village(4), Due.BAD);
        Due.due("village by text -1", x.village(-1), Due.BAD);
        Due.due("refusals change nothing", x.digest(), before);
        Due.due("wind stays", x.wind(1), 1);
        Due.due("where stays", x.where(), 1);
        Due.write(x, 1, "v2t55");
        Due.due("no house by figures alone", x.village(1), Due.STATE);
        Due.write(x, 1, "v2 t525 ");
        Due.due("village anew", x.village(1), 1);
        Due.due("hour anew", x.count(1), 0);
        Due.due("not struck anew", x.count(2), 0);
        Due.due("no deeds", x.count(3), 0);
        Due.due("wood anew", x.count(4), 5);
        Due.due("kept villages go", x.count(8), 0);
        Due.found(x, "on 0 behind village", x.on(0), Due.NOTHING);
        Due.found(x, "on 1 behind village", x.on(1), Due.NOTHING);
        Due.found(x, "on 2 behind village", x.on(2), Due.NOTHING);
        Due.due("wind anew", x.wind(1), 2);
    }

    private static void house() {
        OneMatch x = Due.village("v0 p309 s510 s520 d000 i13-");
        int[][] facts = {{1, 3, 0, 9, 0, 1}, {2, 5, 1, 0, 0, 1}, {2, 5, 2, 0, 0, 0}, {3, 0, 0, 0, 0, 0},
            {5, 1, 3, Due.NONE, 0, 1}};
        for (int h = 0; h < 5; h++) {
            for (int what = 0; what < 6; what++) {
                Due.told(x, "house " + h + ", " + what, x.house(h, what), facts[h][what]);
            }
        }
        x.strike(4);
        Due.told(x, "it burns", x.house(4, 4), 1);
        Due.told(x, "and still catches", x.house(4, 5), 1);
        x.hour();
        Due.told(x, "it went out", x.house(4, 4), 0);
        Due.told(x, "a tile without wood does not catch", x.house(4, 5), 0);
        x = Due.village("v0h10-t919");
        Due.told(x, "a pot", x.house(1, 0), 4);
        Due.told(x, "a wet pot does not catch", x.house(1, 5), 0);
        Due.due("house 2", x.house(2, 0), Due.BAD);
        Due.due("house -1", x.house(-1, 0), Due.BAD);
        Due.due("what 6", x.house(0, 6), Due.BAD);
        Due.due("what -1", x.house(0, -1), Due.BAD);
        Due.due("asked behind refusals", x.asked(), 0);
    }

    private static void wind() {
        OneMatch x = Due.village("v0120h10-");
        int[] winds = {0, 1, 2, 0, 0, 1, 2, 0};
        for (int hour = 0; hour < winds.length; hour++) {
            Due.due("wind of " + hour, x.wind(hour), winds[hour]);
        }
        Due.due("wind of 998", x.wind(998), 2);
        Due.due("wind of 999", x.wind(999), 0);
        Due.due("wind of 1000", x.wind(1000), Due.BAD);
        Due.due("wind of -1", x.wind(-1), Due.BAD);
        x = new OneMatch();
        Due.due("wind without houses", x.wind(999), Due.STATE);
        Due.due("wind without houses, bad first", x.wind(1000), Due.BAD);
    }

    private static void mark() {
        OneMatch x = Due.village("v0 p90- t93- s50- i51- d92-");
        Due.due("peat", x.mark(0, 1), 4);
        Due.due("pot as a peat", x.mark(1, 1), 2);
        Due.due("pot", x.mark(1, 4), 0);
        Due.due("stove", x.mark(2, 2), 2);
        Due.due("tile as a stove", x.mark(3, 2), 0);
        Due.due("tile: one wet beside", x.mark(3, 5), 1);
        Due.due("draught of 9", x.mark(4, 3), 5);
        int[] untilTaken = {3, 2, 1, 0, 3};
        for (int hour = 1; hour <= untilTaken.length; hour++) {
            x.hour();
            Due.due("pot at hour " + hour, x.mark(1, 4), untilTaken[hour - 1]);
            Due.due("pot as a peat at hour " + hour, x.mark(1, 1), 2);
            Due.due("peat at hour " + hour, x.mark(0, 1), 4);
        }
        Due.found(x, "peat as a pot", x.mark(0, 4), Due.UNLIKE);
        Due.found(x, "stove as a tile", x.mark(2, 5), Due.UNLIKE);
        Due.found(x, "pot as a stove", x.mark(1, 2), Due.UNLIKE);
        Due.found(x, "tile as a peat", x.mark(3, 1), Due.UNLIKE);
        Due.found(x, "draught as a peat", x.mark(4, 1), Due.UNLIKE);
        Due.due("kind 0", x.mark(0, 0), Due.BAD);
        Due.due("kind 6", x.mark(0, 6), Due.BAD);
        Due.due("house 5", x.mark(5, 1), Due.BAD);
        Due.due("house -1", x.mark(-1, 1), Due.BAD);
        x = Due.village("v0 i11- d10- d00- h13- i10-");
        Due.due("a tile at the lane's end", x.mark(0, 5), 0);
        Due.due("a tile at the other end", x.mark(4, 5), 1);
        Due.due("draught of 1", x.mark(1, 3), 1);
        Due.due("draught of none", x.mark(2, 3), 0);
        Due.found(x, "a house as a peat", x.mark(3, 1), Due.UNLIKE);
        x = Due.village("v0 h12- i10- s12-");
        Due.due("two wet beside", x.mark(1, 5), 2);
    }

    private static void stack() {
        OneMatch x = Due.village("v0h42-h10-");
        Due.due("stack", x.stack(0, 9), 4);
        Due.due("stack none", x.stack(1, 0), 1);
        Due.due("wood", x.count(4), 9);
        Due.due("wet stays", Due.fact(x, 0, 2), 2);
        Due.due("stack 10", x.stack(0, 10), Due.BAD);
        Due.due("stack -1", x.stack(0, -1), Due.BAD);
        Due.due("stack house 2", x.stack(2, 1), Due.BAD);
        Due.due("stack house -1", x.stack(-1, 1), Due.BAD);
        x.hour();
        Due.due("stack behind a deed", x.stack(0, 1), Due.STATE);
        Due.due("stack 10 behind a deed", x.stack(0, 10), Due.BAD);
        x.undo(0);
        Due.due("undone, the wood stays stacked", x.count(4), 9);
        Due.due("stack again", x.stack(0, 1), 9);
    }
}
