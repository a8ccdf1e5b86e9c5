/** Promises 39 to 45: what is told. */
public final class TellingTest {
    public static void main(String[] args) {
        asked();
        upperAndLower();
        count();
        findings();
        digest();
        Due.finish("TellingTest");
    }

    private static void asked() {
        OneMatch x = new OneMatch();
        Due.due("before", x.asked(), 0);
        Due.write(x, 0, "v0h93-p90-");
        x.village(0);
        Due.due("not by put or village", x.asked(), 0);
        x.house(0, 1);
        Due.due("house", x.asked(), 9);
        x.stack(0, 8);
        x.strike(1);
        x.hour();
        x.reach();
        x.lasts(1);
        x.dark();
        x.can(1);
        x.plan(1, 2, 0);
        x.most(2, 0);
        x.serve(2, 0);
        x.spring(0, 1);
        x.mark(1, 1);
        x.wind(0);
        x.odds(0, 0, 1);
        x.count(0);
        x.digest();
        x.finding();
        x.findings(1);
        x.keep(0);
        x.on(0);
        x.undo(0);
        x.lots(1, 1);
        x.row(1, 2);
        x.copy(1, 0, 1, 1, 1);
        x.hides(1, 0);
        x.tear(1);
        Due.due("only those that the document names tell", x.asked(), 9);
    }

    private static void upperAndLower() {
        OneMatch x = new OneMatch();
        Due.due("upper before", x.upper(), 0);
        Due.due("lower before", x.lower(), 1);
        x = Due.village("v0h90-h90-");
        x.strike(0);
        Due.lay(x, 0, 1);
        x.odds(1, 0, 2);
        Due.due("in lowest terms", x.upper(), 5);
        Due.due("lower number", x.lower(), 6);
        x.ways(1, 1);
        Due.due("told last", x.upper(), 2);
        Due.due("lower is 1", x.lower(), 1);
        x.odds(1, 0, 2);
        Due.lay(x, 0, 3);
        x.smoke(0);
        Due.due("smoke's upper", x.upper(), 2);
        Due.due("smoke's lower", x.lower(), 1);
        x.odds(1, 5, 2);
        x.odds(1, 0, 13);
        Due.due("refusals leave it", x.upper(), 2);
    }

    private static void count() {
        OneMatch x = Due.village("v0h90-p80-t70-d60-i50-");
        x.row(1, 1);
        x.row(5, 1);
        x.text(3, 0);
        x.keep(2);
        x.strike(1);
        x.carry(1, 0);
        x.hour();
        int[] counts = {5, 1, 1, 3, 35 - 2, 2, 2, 2, 1};
        for (int what = 0; what < counts.length; what++) {
            Due.due("count " + what, x.count(what), counts[what]);
        }
        x = Due.village("v0t00-h00-p00-");
        Due.due("peat ones at the lane's ends", x.count(5), 2);
        Due.due("count 9", x.count(9), Due.BAD);
        Due.due("count -1", x.count(-1), Due.BAD);
    }

    private static void findings() {
        OneMatch x = new OneMatch();
        Due.due("before any", x.finding(), 0);
        for (int f = 1; f <= 5; f++) {
            Due.due("none of " + f, x.findings(f), 0);
        }
        x.tear(0);
        x.row(0, 0);
        x.at(0, 0);
        x.at(0, 1);
        x.mean(0);
        x.row(0, -1);
        x.row(0, -2);
        x.row(0, -3);
        Due.due("the latest", x.finding(), Due.SIZE);
        int[] often = {0, 1, 2, 0, 1, 3};
        for (int f = 1; f <= 5; f++) {
            Due.due("findings " + f, x.findings(f), often[f]);
        }
        x.row(9, 9);
        x.hour();
        Due.due("not by bad or state", x.finding(), Due.SIZE);
        Due.due("finding 0", x.findings(0), Due.BAD);
        Due.due("finding 6", x.findings(6), Due.BAD);
        Due.due("finding -1", x.findings(-1), Due.BAD);
    }

    private static long fold(long h, long... values) {
        long folded = h;
        for (long v : values) {
            folded = 31 * folded + v;
        }
        return folded;
    }

    private static void digest() {
        OneMatch x = new OneMatch();
        long h = fold(17, 0, 0, 0, 0, 0, 0, 0, 0, 0);
        h = fold(h, -1, -1, -1);
        h = fold(h, -1, -1, -1, -1, -1, -1);
        Due.due("a new object", x.digest(), fold(h, -1, -1, -1, -1));
        Due.write(x, 2, "v0h90-p811");
        x.village(2);
        x.strike(0);
        x.keep(1);
        x.hour();
        Due.lay(x, 3, 7, -7);
        x.row(4, 0);
        x.text(0, 1);
        x.put(0, 0, 200);
        h = fold(17, 2, 1, 1, 2, 16, 1, 2, 2, 1);
        h = fold(h, 0, 8, 0, -9, 1, 1, 1, 8, 0, 1, 0, 1);
        h = fold(h, -1, 1, -1);
        h = fold(h, -1, -1, -1, 2, 7, -7, 0, -1);
        h = fold(h, 1, 200 - 256, -1);
        h = fold(h, 10, 'v', '0', 'h', '9', '0', '-', 'p', '8', '1', '1', -1);
        Due.due("all told", x.digest(), h);
        x.at(3, 0);
        Due.due("asked ahead", x.asked(), 7);
        x.digest();
        Due.due("digest leaves asked", x.asked(), 7);
    }
}
