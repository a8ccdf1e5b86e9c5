/** The edges that promises 22 to 26 name: what BURNS, how long. */
public final class BurningEdgesTest {
    private static final int LEAST = Integer.MIN_VALUE, MOST = Integer.MAX_VALUE;
    private static final String LETTERS = "hpsdti";

    public static void main(String[] args) {
        firesTold();
        reachNow();
        lastsByWood();
        lastsRefused();
        darkBehind();
        worstTold();
        worstRefused();
        Due.finish("BurningEdgesTest");
    }

    private static void firesTold() {
        Due.sentence("Promise 22", "HOUSES (bits) that BURN now; those that CATCH (whether they BURN or not)"
                + " by asked().");
        OneMatch x = new OneMatch();
        x.where();
        Due.both(x, "no houses", x.fires(), 0, 0);
        x = Due.village("v0 h10- h91- h00- s91- i93-");
        Due.both(x, "at first", x.fires(), 0, 1 | 8 | 16);
        x.strike(0);
        Due.both(x, "one burns", x.fires(), 1, 1 | 8 | 16);
        x.carry(0, 3);
        Due.both(x, "two burn", x.fires(), 1 | 8, 1 | 8 | 16);
        x.hour();
        Due.both(x, "one is out and does not catch, one is dry", x.fires(), 8, 2 | 8 | 16);
        x.carry(3, 4);
        Due.both(x, "the last one", x.fires(), 8 | 16, 2 | 8 | 16);
    }

    private static void reachNow() {
        Due.sentence("Promise 23", "HOUSES (bits) to which EMBERS can be CARRIED now from some that BURNS.");
        Due.due("no houses", new OneMatch().reach(), 0);
        for (int wind = 0; wind <= 2; wind++) {
            for (int from = 0; from < 5; from++) {
                OneMatch x = Due.village("v" + wind + "h90-h90-h90-h90-h90-");
                Due.due("nothing burns", x.reach(), 0);
                x.strike(from);
                int want = 0;
                for (int to = 0; to < 5; to++) {
                    int far = Math.abs(from - to);
                    want |= far >= 1 && far <= 3 - wind ? 1 << to : 0;
                }
                Due.due("from " + from + ", wind " + wind, x.reach(), want);
            }
        }
        OneMatch x = Due.struck("v2h90-h90-h00-h90-h91-", 0);
        x.carry(0, 1);
        Due.due("carried in this hour", x.reach(), 0);
        x.hour();
        Due.due("without wood, too far", x.reach(), 0);
        x = Due.struck("v22222h90-h90-h90-h90-h90-", 0);
        for (int k = 1; k < 5; k++) {
            Due.due("from the last that burns", x.reach(), 1 << k);
            x.carry(k - 1, k);
            x.hour();
        }
        Due.due("all burn", x.reach(), 0);
        x = Due.village("v0t90-t90-");
        Due.hours(x, 38);
        x.strike(0);
        Due.due("39 deeds", x.reach(), 2);
        x.hour();
        Due.due("40 deeds: only the deed is refused", x.reach(), 2);
    }

    /** For how many HOURS from one on WOOD lasts, by reckoning. */
    private static int hoursOf(int kind, int wood, int hour) {
        int step = kind == 1 ? 2 : kind == 4 ? 4 : 1;
        int taken = kind == 3 ? (wood + 1) / 2 : wood;
        int firstTaken = (hour + step - 1) / step * step;
        return taken == 0 ? 0 : firstTaken + step * (taken - 1) - hour + 1;
    }

    private static void lastsByWood() {
        Due.sentence("Promise 24", "How many HOURS a HOUSE BURNS on, if nothing is CARRIED (0: it does not BURN).");
        for (int kind = 0; kind <= 5; kind++) {
            for (int wood = 1; wood <= 9; wood++) {
                for (int hour = 0; hour <= 4; hour++) {
                    String text = "v0" + LETTERS.charAt(kind) + wood + "0-";
                    OneMatch x = Due.village(text);
                    Due.hours(x, hour);
                    Due.due(text + " does not burn", x.lasts(0), 0);
                    x.strike(0);
                    int hours = hoursOf(kind, wood, hour);
                    Due.due(text + " from hour " + hour, x.lasts(0), hours);
                    Due.due(text + " from hour " + hour + ", till dark", x.dark(), hours);
                    if (hour + 1 + hours <= 40) {
                        Due.hours(x, hours - 1);
                        Due.due(text + " burns then", x.fires(), 1);
                        Due.due(text + " its last hour", x.lasts(0), 1);
                        x.hour();
                        Due.due(text + " is out then", x.fires(), 0);
                        Due.due(text + " out", x.lasts(0), 0);
                    }
                }
            }
        }
        OneMatch x = Due.village("v0t90-");
        Due.hours(x, 39);
        x.strike(0);
        Due.due("on behind the 40th deed", x.lasts(0), 34);
    }

    private static void lastsRefused() {
        Due.sentence("Promise 24", "BAD.");
        Due.due("no houses", new OneMatch().lasts(0), Due.BAD);
        OneMatch x = Due.village("v0h90-h90-");
        int[] none = {-1, 2, 5, LEAST, MOST};
        for (int h : none) {
            Due.due("house " + h, x.lasts(h), Due.BAD);
        }
        Due.due("the last house", x.lasts(1), 0);
        Due.due("the first house", x.lasts(0), 0);
    }

    private static void darkBehind() {
        Due.sentence("Promise 25", "Behind how many HOURS (0 ..), if nothing is CARRIED, nothing BURNS any more"
                + " (0: now).");
        Due.due("no houses", new OneMatch().dark(), 0);
        OneMatch x = Due.village("v0h20-h10-h50-");
        Due.due("not struck", x.dark(), 0);
        x.strike(1);
        Due.due("the shortest", x.dark(), 1);
        x.carry(1, 2);
        Due.due("the longest of two", x.dark(), 5);
        for (int left = 4; left >= 0; left--) {
            x.hour();
            Due.due("an hour on", x.dark(), left);
        }
        x.hour();
        Due.due("dark it stays", x.dark(), 0);
        x = Due.struck("v0h50-h10-", 0);
        x.carry(0, 1);
        Due.due("the first one is the longest", x.dark(), 5);
    }

    private static void worstTold() {
        Due.sentence("Promise 26", "Of the next n (1 .. 20) HOURS' ends, if nothing is CARRIED, the one (1 ..) at which"
                + " fewest HOUSES BURN (the first); how many by asked().");
        OneMatch x = Due.struck("v0t90-h30-", 0);
        x.carry(0, 1);
        Due.both(x, "1 end", x.worst(1), 1, 2);
        Due.both(x, "2 ends", x.worst(2), 1, 2);
        Due.both(x, "3 ends", x.worst(3), 3, 1);
        Due.both(x, "4 ends", x.worst(4), 3, 1);
        Due.both(x, "20 ends", x.worst(20), 3, 1);
        Due.hours(x, 13);
        Due.both(x, "19 ends, an hour ahead of the dark", x.worst(19), 1, 1);
        Due.both(x, "20 ends, the dark one", x.worst(20), 20, 0);
        x.hour();
        Due.both(x, "19 ends, the dark one", x.worst(19), 19, 0);
        for (int wood = 1; wood <= 9; wood++) {
            // two burn until one of them is out, then one, then none: the first end of the fewest
            OneMatch y = Due.struck("v0h90-h" + wood + "0-", 0);
            y.carry(0, 1);
            for (int n = 1; n <= 20; n++) {
                int worst = n >= 9 ? 9 : n >= wood ? wood : 1;
                int burning = n >= 9 ? 0 : n >= wood ? 1 : 2;
                Due.both(y, "wood " + wood + ", ends " + n, y.worst(n), worst, burning);
            }
        }
        x.undo(0);
        Due.both(x, "nothing burns", x.worst(1), 1, 0);
        Due.both(x, "nothing burns, 20", x.worst(20), 1, 0);
        Due.due("aside", x.count(1), 0);
    }

    private static void worstRefused() {
        Due.sentence("Promise 26", "BAD; STATE: no HOUSES.");
        int[] none = {0, -1, 21, LEAST, MOST};
        OneMatch x = new OneMatch();
        for (int n : none) {
            Due.due("without houses, " + n, x.worst(n), Due.BAD);
        }
        Due.due("without houses, 1", x.worst(1), Due.STATE);
        Due.due("without houses, 20", x.worst(20), Due.STATE);
        x = Due.village("v0h90-");
        for (int n : none) {
            Due.due("ends " + n, x.worst(n), Due.BAD);
        }
    }
}
