/** The edges that promises 39 to 45 name: what is told. */
public final class TellingEdgesTest {
    private static final int LEAST = Integer.MIN_VALUE, MOST = Integer.MAX_VALUE;

    public static void main(String[] args) {
        askedBefore();
        askedByEach();
        askedNotByOthers();
        upperBefore();
        lowerBefore();
        countTold();
        countRefused();
        findingBefore();
        findingsTold();
        findingsRefused();
        digestOfNothing();
        digestOfAll();
        digestOfEachPlace();
        Due.finish("TellingEdgesTest");
    }

    private static void askedBefore() {
        Due.sentence("Promise 39", "0 before.");
        OneMatch x = new OneMatch();
        Due.due("a new object", x.asked(), 0);
        x.lay(0, 0, 5);
        x.at(0, 0);
        x.mean(0);
        x.house(0, 0);
        x.worst(1);
        x.ways(0, 0);
        x.run(0);
        x.smoke(0);
        Due.due("refusals told nothing", x.asked(), 0);
    }

    private static void askedByEach() {
        Due.sentence("Promise 39", "What the latest lay(), at(), mean(), house(), fires(), worst(), ways(), run(), where(),"
                + " smoke() that was not refused told;");
        OneMatch x = Due.struck("v0h70-h50-", 0);
        Due.lay(x, 0, 41, 43);
        Due.told(x, "lay", x.lay(0, 0, 51), 41);
        x.lay(0, 2, 9);
        Due.due("a refused lay", x.asked(), 41);
        Due.told(x, "at", x.at(0, 1), 43);
        x.at(0, 2);
        Due.due("a refused at", x.asked(), 43);
        Due.told(x, "mean", x.mean(0), 47);
        x.mean(1);
        Due.due("a refused mean", x.asked(), 47);
        Due.told(x, "house", x.house(0, 1), 7);
        x.house(2, 1);
        Due.due("a refused house", x.asked(), 7);
        Due.both(x, "fires", x.fires(), 1, 3);
        x.house(0, 1);
        Due.both(x, "worst", x.worst(1), 1, 1);
        x.house(0, 1);
        x.worst(21);
        Due.due("a refused worst", x.asked(), 7);
        Due.told(x, "ways", x.ways(0, 2), 3);
        x.house(0, 1);
        x.ways(2, 2);
        Due.due("refused ways", x.asked(), 7);
        x.row(1, 0);
        Due.both(x, "run", x.run(1), 1, 12);
        x.run(0);
        x.run(2);
        Due.due("a refused run", x.asked(), 12);
        Due.both(x, "where", x.where(), 3, 0);
        Due.lay(x, 1, 3);
        Due.told(x, "smoke", x.smoke(1), 3);
        x.smoke(0);
        x.smoke(2);
        Due.due("a refused smoke", x.asked(), 3);
    }

    private static void askedNotByOthers() {
        Due.sentence("Promise 39", "What the latest lay(), at(), mean(), house(), fires(), worst(), ways(), run(), where(),"
                + " smoke()");
        OneMatch x = Due.village("v0h70-p50-");
        x.house(0, 1);
        x.row(0, 1);
        x.row(1, 1);
        x.copy(0, 0, 1, 0, 1);
        x.tear(1);
        x.text(1, 1);
        x.put(1, 0, 5);
        x.fault(0);
        x.wind(0);
        x.mark(1, 1);
        x.stack(0, 6);
        x.strike(0);
        x.carry(0, 1);
        x.hour();
        x.keep(0);
        x.on(0);
        x.undo(1);
        x.reach();
        x.lasts(0);
        x.dark();
        x.can(2);
        x.plan(1, 2, 2);
        x.most(2, 3);
        x.serve(2, 4);
        x.row(5, 1);
        x.hides(5, 0);
        x.spring(0, 3);
        x.odds(1, 2, 3);
        x.lots(1, 1);
        x.upper();
        x.lower();
        x.count(4);
        x.finding();
        x.findings(1);
        x.digest();
        x.village(0);
        Due.due("what house told", x.asked(), 7);
        Due.due("it was refused nowhere", x.finding(), 0);
    }

    private static void upperBefore() {
        Due.sentence("Promise 40", "The upper number that was told last; 0 before.");
        OneMatch x = new OneMatch();
        Due.due("a new object", x.upper(), 0);
        x.ways(0, 0);
        x.smoke(0);
        x.odds(0, 0, 0);
        Due.due("behind refusals", x.upper(), 0);
        x = Due.struck("v0h90-h90-", 0);
        x.can(4);
        x.most(4, 0);
        Due.due("others tell none", x.upper(), 0);
        x.ways(0, 4);
        Due.due("by ways", x.upper(), 5);
        x.ways(0, 5);
        Due.due("by refused ways", x.upper(), 5);
        Due.lay(x, 1, 1);
        x.odds(1, 1, 2);
        Due.due("by odds, in lowest terms", x.upper(), 5);
        x.odds(1, 1, 12);
        Due.due("by odds of none", x.upper(), 0);
        Due.lay(x, 1, 3);
        x.smoke(1);
        Due.due("by smoke", x.upper(), 2);
        x.odds(1, 1, 13);
        Due.due("by refused odds", x.upper(), 2);
    }

    private static void lowerBefore() {
        Due.sentence("Promise 41", "Its lower number; 1 before.");
        OneMatch x = new OneMatch();
        Due.due("a new object", x.lower(), 1);
        x.odds(0, 0, 0);
        Due.due("behind a refusal", x.lower(), 1);
        x = Due.struck("v0h90-h90-", 0);
        Due.lay(x, 1, 1);
        x.odds(1, 1, 1);
        Due.due("by odds", x.lower(), 12);
        x.odds(1, 1, 2);
        Due.due("by odds, in lowest terms", x.lower(), 6);
        x.odds(1, 1, 13);
        Due.due("by refused odds", x.lower(), 6);
        x.ways(0, 1);
        Due.due("by ways", x.lower(), 1);
        x.odds(1, 1, 3);
        Due.lay(x, 1, 3);
        x.smoke(1);
        Due.due("by smoke", x.lower(), 1);
    }

    private static void countsAre(OneMatch x, String when, int... counts) {
        for (int what = 0; what < counts.length; what++) {
            Due.due(when + ", count " + what, x.count(what), counts[what]);
        }
    }

    private static void countTold() {
        Due.sentence("Promise 42", "0 HOUSES, 1 the HOUR, 2 whether the match was STRUCK (1, 0), 3 DEEDS, 4 all WOOD, 5 PEAT"
                + " ones (POTS, too), 6 ROWS, 7 TEXTS that are there, 8 kept VILLAGES.");
        OneMatch x = new OneMatch();
        countsAre(x, "new", 0, 0, 0, 0, 0, 0, 0, 0, 0);
        for (int r = 0; r <= 5; r++) {
            x.row(r, 0);
        }
        for (int t = 0; t <= 3; t++) {
            x.text(t, 0);
        }
        countsAre(x, "all rows and texts", 0, 0, 0, 0, 0, 0, 6, 4, 0);
        Due.write(x, 0, "v0p10-p90-t90-t00-p90-");
        x.village(0);
        for (int k = 0; k <= 2; k++) {
            x.keep(k);
        }
        countsAre(x, "all houses peat, all kept", 5, 0, 0, 0, 28, 5, 6, 4, 3);
        x.strike(0);
        countsAre(x, "struck", 5, 0, 1, 1, 28, 5, 6, 4, 3);
        x.hour();
        countsAre(x, "out, still struck", 5, 1, 1, 2, 27, 5, 6, 4, 3);
        x.tear(3);
        Due.write(x, 1, "v0h90-d90-i90-s90-");
        x.village(1);
        countsAre(x, "no peat", 4, 0, 0, 0, 36, 0, 5, 4, 0);
    }

    private static void countRefused() {
        Due.sentence("Promise 42", "BAD.");
        OneMatch x = new OneMatch();
        int[] none = {-1, 9, LEAST, MOST};
        for (int what : none) {
            Due.due("count " + what, x.count(what), Due.BAD);
        }
        Due.due("count 0", x.count(0), 0);
        Due.due("count 8", x.count(8), 0);
    }

    private static void findingBefore() {
        Due.sentence("Promise 43", "The latest FINDING (0 before any).");
        OneMatch x = new OneMatch();
        Due.due("a new object", x.finding(), 0);
        x.row(6, 0);
        x.hour();
        x.village(4);
        Due.due("behind BAD and STATE", x.finding(), 0);
        Due.found(x, "NOTHING", x.tear(0), Due.NOTHING);
        x.row(0, 0);
        Due.found(x, "BEYOND", x.at(0, 0), Due.BEYOND);
        Due.found(x, "NOUGHT", x.mean(0), Due.NOUGHT);
        Due.found(x, "SIZE", x.row(0, -1), Due.SIZE);
        Due.write(x, 0, "v0h10-");
        x.village(0);
        Due.found(x, "UNLIKE", x.mark(0, 1), Due.UNLIKE);
        x.row(0, 0);
        x.strike(9);
        x.strike(0);
        x.strike(0);
        Due.hours(x, 40);
        Due.due("what is not found leaves it", x.finding(), Due.UNLIKE);
    }

    private static void findingsTold() {
        Due.sentence("Promise 44", "How often a FINDING (1 .. 5) was answered.");
        OneMatch x = new OneMatch();
        for (int often = 1; often <= 3; often++) {
            for (int f = 1; f <= 5; f++) {
                Due.due("finding " + f + " ahead", x.findings(f), often - 1);
                find(x, f);
                Due.due("finding " + f, x.findings(f), often);
            }
        }
        x.row(6, -1);
        x.mean(9);
        x.carry(0, 9);
        for (int f = 1; f <= 5; f++) {
            Due.due("not by other refusals " + f, x.findings(f), 3);
        }
    }

    private static void find(OneMatch x, int f) {
        x.row(1, 0);
        switch (f) {
            case Due.NOTHING:
                x.tear(5);
                break;
            case Due.BEYOND:
                x.at(1, 0);
                break;
            case Due.UNLIKE:
                Due.write(x, 0, "v0h10-");
                x.village(0);
                x.mark(0, 5);
                break;
            case Due.NOUGHT:
                x.mean(1);
                break;
            default:
                x.text(0, -1);
        }
    }

    private static void findingsRefused() {
        Due.sentence("Promise 44", "BAD.");
        OneMatch x = new OneMatch();
        int[] none = {0, -1, 6, LEAST, MOST};
        for (int f : none) {
            Due.due("finding " + f, x.findings(f), Due.BAD);
        }
        Due.due("finding 1", x.findings(1), 0);
        Due.due("finding 5", x.findings(5), 0);
        Due.due("asking is no finding", x.finding(), 0);
    }

    private static long fold(long start, long... values) {
        long h = start;
        for (long v : values) {
            h = 31 * h + v;
        }
        return h;
    }

    private static void digestOfNothing() {
        Due.sentence("Promise 45", "h = 17; then h = 31 h + v for each v:");
        long h = fold(17, new long[9]);
        h = fold(h, -1, -1, -1);
        h = fold(h, -1, -1, -1, -1, -1, -1);
        h = fold(h, -1, -1, -1, -1);
        Due.due("a new object", new OneMatch().digest(), h);
    }

    private static void digestOfAll() {
        Due.sentence("Promise 45", "count() 0 to 8; of each HOUSE house() 0 to 5; of each kept VILLAGE how many DEEDS (-1:"
                + " missing); of each ROW its size (-1: missing) and places, of each TEXT likewise.");
        OneMatch x = Due.struck("v0h90-t739", 0);
        x.keep(0);
        x.hour();
        x.keep(2);
        Due.lay(x, 0, LEAST, MOST);
        x.row(5, 0);
        x.text(3, 2);
        x.put(3, 0, 128);
        x.put(3, 1, 127);
        long h = fold(17, 2, 1, 1, 2, 15, 1, 2, 2, 2);
        h = fold(h, 0, 8, 0, Due.NONE, 1, 1);
        h = fold(h, 4, 7, 2, 9, 0, 0);
        h = fold(h, 1, -1, 2);
        h = fold(h, 2, LEAST, MOST, -1, -1, -1, -1, 0);
        h = fold(h, 10, 'v', '0', 'h', '9', '0', '-', 't', '7', '3', '9');
        h = fold(h, -1, -1, 2, -128, 127);
        Due.due("all told", x.digest(), h);
    }

    private static void digestOfEachPlace() {
        Due.sentence("Promise 45", "of each ROW its size (-1: missing) and places, of each TEXT likewise.");
        OneMatch x = new OneMatch();
        for (int r = 0; r <= 5; r++) {
            long before = x.digest();
            x.row(r, 0);
            long none = x.digest();
            Due.holds("a row of none is told from a missing one " + r, none != before);
            x.row(r, 1);
            long one = x.digest();
            Due.holds("a row of one " + r, one != none);
            x.lay(r, 0, 1);
            Due.holds("its place " + r, x.digest() != one);
            x.tear(r);
            Due.due("torn " + r, x.digest(), before);
        }
        for (int t = 0; t <= 3; t++) {
            long before = x.digest();
            x.text(t, 60);
            long blanks = x.digest();
            Due.holds("a text " + t, blanks != before);
            x.put(t, 59, 31);
            Due.holds("its last byte " + t, x.digest() != blanks);
        }
    }
}
