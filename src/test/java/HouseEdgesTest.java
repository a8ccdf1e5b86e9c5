/** The edges that promises 12 to 15 name, and which HOUSES CATCH. */
public final class HouseEdgesTest {
    private static final int LEAST = Integer.MIN_VALUE, MOST = Integer.MAX_VALUE;
    private static final String LETTERS = "hpsdti";

    public static void main(String[] args) {
        catching();
        houseTold();
        houseRefused();
        windTold();
        windRefused();
        peatMark();
        stoveMark();
        draughtMark();
        potMark();
        tileMark();
        markBad();
        markUnlike();
        stackTells();
        stackBad();
        stackBehindDeeds();
        Due.finish("HouseEdgesTest");
    }

    private static void catching() {
        Due.sentence("Terms", "A HOUSE CATCHES, if it has WOOD and its WET is 0; a STOVE, if that is 1 at most;"
                + " a TILE whatever it is.");
        int[] dampest = {0, 0, 1, 0, 0, 3};
        for (int kind = 0; kind <= 5; kind++) {
            for (int wet = 0; wet <= 3; wet++) {
                for (int wood = 0; wood <= 9; wood++) {
                    String text = "v0" + LETTERS.charAt(kind) + wood + wet + "-";
                    int want = wood >= 1 && wet <= dampest[kind] ? 1 : 0;
                    OneMatch x = Due.village(text);
                    Due.due("fires of " + text, x.fires(), 0);
                    Due.due("catches by fires, " + text, x.asked(), want);
                    Due.due("catches by house, " + text, Due.fact(x, 0, 5), want);
                    Due.due("where of " + text, x.where(), want);
                    Due.due("strike " + text, x.strike(0), want == 1 ? 1 : Due.STATE);
                }
            }
        }
    }

    private static void houseTold() {
        Due.sentence("Promise 12", "0 the KIND, 1 WOOD, 2 WET, 3 the HOUR at which it NEEDS fire (NONE), 4 whether it"
                + " BURNS (1, 0), 5 whether it CATCHES (1, 0; whether it BURNS or not), told by asked(): 1.");
        OneMatch x = Due.village("v0 h100 t939 i03- s21- d40-");
        int[][] facts = {{0, 1, 0, 0, 0, 1}, {4, 9, 3, 9, 0, 0}, {5, 0, 3, Due.NONE, 0, 0}, {2, 2, 1, Due.NONE, 0, 1},
            {3, 4, 0, Due.NONE, 0, 1}};
        for (int h = 0; h < 5; h++) {
            for (int what = 0; what <= 5; what++) {
                Due.told(x, "house " + h + ", " + what, x.house(h, what), facts[h][what]);
            }
        }
        x.strike(0);
        Due.told(x, "it burns", x.house(0, 4), 1);
        Due.told(x, "it burns and catches", x.house(0, 5), 1);
        Due.told(x, "beside it nothing burns", x.house(1, 4), 0);
        x.carry(0, 3);
        Due.told(x, "a wet one burns", x.house(3, 4), 1);
        Due.told(x, "it catches still", x.house(3, 5), 1);
        x.hour();
        Due.told(x, "out", x.house(0, 4), 0);
        Due.told(x, "without wood it does not catch", x.house(0, 5), 0);
        Due.told(x, "no wood", x.house(0, 1), 0);
        Due.told(x, "one wood left", x.house(3, 1), 1);
        Due.told(x, "dried by one", x.house(1, 2), 2);
        Due.told(x, "the need stays", x.house(0, 3), 0);
    }

    private static void houseRefused() {
        Due.sentence("Promise 12", "BAD.");
        OneMatch x = new OneMatch();
        Due.due("no houses", x.house(0, 0), Due.BAD);
        x = Due.village("v0h10-h10-");
        int[] noHouse = {-1, 2, 5, LEAST, MOST};
        for (int h : noHouse) {
            Due.due("house " + h, x.house(h, 0), Due.BAD);
        }
        int[] nothing = {-1, 6, LEAST, MOST};
        for (int what : nothing) {
            Due.due("what " + what, x.house(0, what), Due.BAD);
        }
        Due.told(x, "the last house, the last fact", x.house(1, 5), 1);
        Due.told(x, "the first house, the first fact", x.house(0, 0), 0);
        Due.due("a house more", Due.village("v0h10-h10-h10-").house(2, 0), 1);
    }

    private static void windTold() {
        Due.sentence("Promise 13", "The WIND of an HOUR (0 .. 999).");
        OneMatch x = Due.village("v1220h10-");
        int[] hours = {0, 1, 2, 3, 4, 996, 997, 998, 999};
        int[] winds = {1, 2, 2, 0, 1, 1, 2, 2, 0};
        for (int i = 0; i < hours.length; i++) {
            Due.due("wind " + hours[i], x.wind(hours[i]), winds[i]);
        }
        x.hour();
        Due.due("whatever hour it is", x.wind(0), 1);
    }

    private static void windRefused() {
        Due.sentence("Promise 13", "BAD; STATE: no HOUSES.");
        OneMatch x = new OneMatch();
        int[] none = {-1, 1000, LEAST, MOST};
        for (int hour : none) {
            Due.due("without houses, " + hour, x.wind(hour), Due.BAD);
        }
        Due.due("without houses, 0", x.wind(0), Due.STATE);
        Due.due("without houses, 999", x.wind(999), Due.STATE);
        x = Due.village("v2h10-");
        for (int hour : none) {
            Due.due("hour " + hour, x.wind(hour), Due.BAD);
        }
        Due.due("hour 0", x.wind(0), 2);
        Due.due("hour 999", x.wind(999), 2);
    }

    private static void peatMark() {
        Due.sentence("Promise 14", "a PEAT (POT, too) how much WOOD it would take in 8 HOURS from this one on,"
                + " had it enough,");
        OneMatch x = Due.village("v0p00-t03-p90-t90-");
        for (int hour = 0; hour <= 8; hour++) {
            Due.due("peat without wood, hour " + hour, x.mark(0, 1), 4);
            Due.due("wet pot without wood, hour " + hour, x.mark(1, 1), 2);
            Due.due("peat, hour " + hour, x.mark(2, 1), 4);
            Due.due("pot, hour " + hour, x.mark(3, 1), 2);
            x.hour();
        }
    }

    private static void stoveMark() {
        Due.sentence("Promise 14", "a STOVE (TILE, too) how many of WETS 0 .. 3 there are with which it does not"
                + " CATCH (had it WOOD),");
        for (int wet = 0; wet <= 3; wet++) {
            OneMatch x = Due.village("v0 s9" + wet + "- s0" + wet + "- i9" + wet + "- i0" + wet + "-");
            Due.due("stove, wet " + wet, x.mark(0, 2), 2);
            Due.due("stove without wood, wet " + wet, x.mark(1, 2), 2);
            Due.due("tile, wet " + wet, x.mark(2, 2), 0);
            Due.due("tile without wood, wet " + wet, x.mark(3, 2), 0);
        }
    }

    private static void draughtMark() {
        Due.sentence("Promise 14", "a DRAUGHT how many HOURS its WOOD lasts, rounded up,");
        int[] hours = {0, 1, 1, 2, 2, 3, 3, 4, 4, 5};
        for (int wood = 0; wood <= 9; wood++) {
            OneMatch x = Due.village("v0d" + wood + "3-");
            Due.due("wood " + wood, x.mark(0, 3), hours[wood]);
        }
        OneMatch x = Due.struck("v0d30-", 0);
        Due.due("at first", x.mark(0, 3), 2);
        x.hour();
        Due.due("an hour on", x.mark(0, 3), 1);
        x.hour();
        Due.due("out", x.mark(0, 3), 0);
    }

    private static void potMark() {
        Due.sentence("Promise 14", "a POT how many HOURS there are till one in which it takes WOOD (0: this one is),");
        int[] till = {0, 3, 2, 1};
        OneMatch x = Due.village("v0t03-");
        for (int hour = 0; hour <= 40; hour++) {
            Due.due("hour " + hour, x.mark(0, 4), till[hour % 4]);
            x.hour();
        }
    }

    private static void tileMark() {
        Due.sentence("Promise 14", "a TILE how many HOUSES beside it are WET.");
        int[] beside = {0, 1, 1, 2};
        int[] wets = {0, 1, 3};
        for (int left : wets) {
            for (int right : wets) {
                int want = beside[(left > 0 ? 1 : 0) + (right > 0 ? 2 : 0)];
                OneMatch x = Due.village("v0 h9" + left + "- i93- h9" + right + "-");
                Due.due("wet " + left + " and " + right, x.mark(1, 5), want);
            }
        }
        OneMatch x = Due.village("v0 i93- h90- h93- h90- i93-");
        Due.due("the first of the lane", x.mark(0, 5), 0);
        Due.due("the last of the lane", x.mark(4, 5), 0);
        x = Due.village("v0 i93- h91- h90- h91- i93-");
        Due.due("the first, one wet beside", x.mark(0, 5), 1);
        Due.due("the last, one wet beside", x.mark(4, 5), 1);
        Due.due("a tile alone", Due.village("v0i93-").mark(0, 5), 0);
        x = Due.struck("v0i33-h91-", 0);
        x.hour();
        Due.due("as it is now", x.mark(0, 5), 0);
    }

    private static void markBad() {
        Due.sentence("Promise 14", "BAD: also KIND 0; UNLIKE.");
        OneMatch x = new OneMatch();
        Due.due("no houses", x.mark(0, 1), Due.BAD);
        x = Due.village("v0 p10- i10- h10-");
        int[] noKind = {0, -1, 6, LEAST, MOST};
        for (int kind : noKind) {
            Due.due("kind " + kind, x.mark(0, kind), Due.BAD);
            Due.due("kind " + kind + " of a house", x.mark(2, kind), Due.BAD);
        }
        int[] noHouse = {-1, 3, 5, LEAST, MOST};
        for (int h : noHouse) {
            Due.due("house " + h, x.mark(h, 1), Due.BAD);
        }
        Due.due("no finding", x.finding(), 0);
        Due.due("kind 1", x.mark(0, 1), 4);
        Due.due("kind 5", x.mark(1, 5), 0);
        Due.found(x, "the last house", x.mark(2, 5), Due.UNLIKE);
    }

    private static void markUnlike() {
        Due.sentence("Promise 14", "What a HOUSE that IS of a KIND tells");
        // which of KINDS 1 .. 5 each KIND is of
        int[][] isOf = {{}, {1}, {2}, {3}, {1, 4}, {2, 5}};
        for (int kind = 0; kind <= 5; kind++) {
            for (int other = 1; other <= 5; other++) {
                OneMatch x = Due.village("v0" + LETTERS.charAt(kind) + "10-");
                boolean is = false;
                for (int one : isOf[kind]) {
                    is |= one == other;
                }
                String what = "kind " + kind + " as " + other;
                if (is) {
                    Due.holds(what, x.mark(0, other) >= 0);
                    Due.due(what + ": finding", x.finding(), 0);
                } else {
                    Due.found(x, what, x.mark(0, other), Due.UNLIKE);
                }
            }
        }
    }

    private static void stackTells() {
        Due.sentence("Promise 15", "WOOD of a HOUSE is v (0 .. 9): what it was.");
        OneMatch x = Due.village("v0h50-h00-");
        int[] woods = {0, 1, 8, 9, 9, 0};
        int was = 5;
        for (int v : woods) {
            Due.due("stack " + v, x.stack(0, v), was);
            Due.due("it is so", Due.fact(x, 0, 1), v);
            Due.due("as at first, too", x.where(), v > 0 ? 1 : 0);
            was = v;
        }
        Due.due("the other one stays", x.stack(1, 3), 0);
        Due.due("all wood", x.count(4), 3);
        Due.due("no deed", x.count(3), 0);
    }

    private static void stackBad() {
        Due.sentence("Promise 15", "BAD;");
        OneMatch x = new OneMatch();
        Due.due("no houses", x.stack(0, 0), Due.BAD);
        x = Due.village("v0h50-h60-");
        int[] noWood = {-1, 10, LEAST, MOST};
        for (int v : noWood) {
            Due.due("wood " + v, x.stack(0, v), Due.BAD);
        }
        int[] noHouse = {-1, 2, LEAST, MOST};
        for (int h : noHouse) {
            Due.due("house " + h, x.stack(h, 1), Due.BAD);
        }
        Due.due("all stays", x.count(4), 11);
        Due.due("the last house", x.stack(1, 9), 6);
    }

    private static void stackBehindDeeds() {
        Due.sentence("Promise 15", "STATE: there are DEEDS.");
        OneMatch x = Due.village("v0h50-h60-");
        x.hour();
        Due.due("behind an hour", x.stack(0, 1), Due.STATE);
        Due.due("bad goes first", x.stack(0, 10), Due.BAD);
        x.keep(0);
        x.undo(0);
        Due.due("undone", x.stack(0, 1), 5);
        x.strike(0);
        Due.due("behind striking", x.stack(1, 1), Due.STATE);
        x.undo(1);
        Due.due("behind undoing none", x.stack(1, 1), Due.STATE);
        x.undo(0);
        Due.due("undone again", x.stack(1, 2), 6);
        x.on(0);
        Due.due("a kept one with a deed", x.stack(1, 2), Due.STATE);
        Due.due("its wood is what was kept", x.count(4), 11);
        x.village(0);
        Due.due("a village anew", x.stack(1, 2), 6);
    }
}
