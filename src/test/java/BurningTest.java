/** Promises 22 to 26: what BURNS, how long. */
public final class BurningTest {
    public static void main(String[] args) {
        fires();
        reach();
        lasts();
        dark();
        worst();
        Due.finish("BurningTest");
    }

    private static void fires() {
        OneMatch x = new OneMatch();
        Due.both(x, "without houses", x.fires(), 0, 0);
        x = Due.village("v0 h10- h11- s11- h00- i93-");
        Due.both(x, "at first", x.fires(), 0, 21);
        x.strike(0);
        x.carry(0, 2);
        Due.both(x, "two", x.fires(), 5, 21);
        x.hour();
        Due.both(x, "both out, one dry", x.fires(), 0, 18);
    }

    private static void reach() {
        OneMatch x = new OneMatch();
        Due.due("without houses", x.reach(), 0);
        x = Due.village("v0201 h90- p90- h91- s91- h90-");
        Due.due("nothing burns", x.reach(), 0);
        x.strike(1);
        Due.due("wind 0", x.reach(), 1 | 8 | 16);
        x.hour();
        Due.due("wind 2", x.reach(), 1 | 4);
        x.hour();
        x.hour();
        Due.due("wind 1", x.reach(), 1 | 4 | 8);
        x.carry(1, 3);
        Due.due("carried in this hour", x.reach(), 0);
        x.hour();
        Due.due("from either", x.reach(), 1 | 4 | 16);
    }

    private static void lasts() {
        OneMatch x = Due.village("v0 h90- p90- d90- t90- h00-");
        Due.due("it does not burn", x.lasts(0), 0);
        Due.due("house 5", x.lasts(5), Due.BAD);
        Due.due("house -1", x.lasts(-1), Due.BAD);
        int[] hours = {9, 17, 5, 33};
        int[] oddHours = {9, 18, 5, 36};
        for (int h = 0; h < 4; h++) {
            x.strike(h);
            Due.due("from hour 0 on " + h, x.lasts(h), hours[h]);
            x.undo(0);
            x.hour();
            x.strike(h);
            Due.due("from hour 1 on " + h, x.lasts(h), oddHours[h]);
            for (int i = 0; i < oddHours[h] - 1; i++) {
                x.hour();
            }
            Due.due("its last hour " + h, x.lasts(h), 1);
            x.hour();
            Due.due("out " + h, x.lasts(h), 0);
            Due.due("truly out " + h, x.fires(), 0);
            x.undo(0);
        }
    }

    private static void dark() {
        OneMatch x = new OneMatch();
        Due.due("without houses", x.dark(), 0);
        x = Due.village("v0 h20- p20- d90-");
        Due.due("nothing burns", x.dark(), 0);
        x.strike(0);
        Due.due("one", x.dark(), 2);
        x.carry(0, 2);
        Due.due("the longer one", x.dark(), 5);
        x.hour();
        Due.due("an hour on", x.dark(), 4);
    }

    private static void worst() {
        OneMatch x = new OneMatch();
        Due.due("without houses", x.worst(1), Due.STATE);
        Due.due("bad first", x.worst(21), Due.BAD);
        x = Due.village("v0 h20- p20- d90-");
        Due.both(x, "nothing burns", x.worst(20), 1, 0);
        x.strike(0);
        x.carry(0, 2);
        Due.both(x, "one end", x.worst(1), 1, 2);
        Due.both(x, "two ends", x.worst(2), 2, 1);
        Due.both(x, "the first of alike ones", x.worst(4), 2, 1);
        Due.both(x, "the dark one", x.worst(5), 5, 0);
        Due.both(x, "20", x.worst(20), 5, 0);
        Due.due("0", x.worst(0), Due.BAD);
        Due.due("21", x.worst(21), Due.BAD);
        Due.due("asked behind refusals", x.asked(), 0);
        Due.due("aside", x.count(1), 0);
    }
}
