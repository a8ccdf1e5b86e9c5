/** The edges that promises 1 to 7 name: a new object, and ROWS. */
public final class RowEdgesTest {
    private static final int LEAST = Integer.MIN_VALUE, MOST = Integer.MAX_VALUE;

    public static void main(String[] args) {
        nothingAtFirst();
        rowIsThere();
        rowTooLarge();
        rowBelowNone();
        layTellsWhatItWas();
        layRefused();
        atTells();
        atRefused();
        tearMissing();
        tearRefused();
        copyWithinOneRow();
        copyBad();
        copyFewerThanNone();
        copyEitherMissing();
        copyBeyond();
        meanCut();
        meanRefused();
        Due.finish("RowEdgesTest");
    }

    private static void nothingAtFirst() {
        Due.sentence("Promise 1", "No ROWS, TEXTS, HOUSES.");
        OneMatch x = new OneMatch();
        Due.due("rows", x.count(6), 0);
        Due.due("texts", x.count(7), 0);
        Due.due("houses", x.count(0), 0);
        for (int r = 0; r <= 5; r++) {
            Due.found(x, "row " + r, x.at(r, 0), Due.NOTHING);
        }
        for (int t = 0; t <= 3; t++) {
            Due.found(x, "text " + t, x.fault(t), Due.NOTHING);
        }
        Due.due("house 0", x.house(0, 0), Due.BAD);
    }

    private static void rowIsThere() {
        Due.sentence("Promise 2", "A ROW is there with n ints 0: n.");
        int[] sizes = {40, 0, 39, 1, 40};
        for (int r = 0; r <= 5; r++) {
            OneMatch x = new OneMatch();
            for (int n : sizes) {
                Due.due("row of " + n, x.row(r, n), n);
                Due.due("rows there", x.count(6), 1);
                Due.rowIs(x, "row of " + n, r, new int[n]);
                fill(x, r, n);
            }
        }
        theRowsOwnPlacesAlone();
    }

    /** What lay behind a ROW's end ahead of it is not seen by anyone. */
    private static void theRowsOwnPlacesAlone() {
        OneMatch x = Due.struck("v0h90-h90-", 0);
        Due.lay(x, 0, 1, 99, 99);
        x.row(0, 1);
        x.lay(0, 0, 1);
        Due.told(x, "mean", x.mean(0), 1);
        Due.both(x, "run", x.run(0), 3, 16);
        Due.chance(x, "odds", x.odds(1, 0, 6), 1, 2);
        Due.told(x, "smoke", x.smoke(0), 1);
        Due.lay(x, 0, 1, 2, 2);
        x.row(0, 1);
        x.lay(0, 0, 1);
        Due.due("hides", x.hides(0, 1), Due.NONE);
        Due.found(x, "copy", x.copy(0, 0, 0, 0, 2), Due.BEYOND);
    }

    private static void fill(OneMatch x, int r, int n) {
        for (int i = 0; i < n; i++) {
            x.lay(r, i, 5);
        }
    }

    private static void rowTooLarge() {
        Due.sentence("Promise 2", "BAD: also n above 40");
        OneMatch x = new OneMatch();
        Due.due("39", x.row(0, 39), 39);
        Due.due("40", x.row(0, 40), 40);
        Due.due("41", x.row(0, 41), Due.BAD);
        Due.due("most", x.row(0, MOST), Due.BAD);
        Due.due("row -1", x.row(-1, 1), Due.BAD);
        Due.due("row 6", x.row(6, 1), Due.BAD);
        Due.due("row 5", x.row(5, 1), 1);
        Due.due("row least", x.row(LEAST, 1), Due.BAD);
        Due.due("row most", x.row(MOST, 1), Due.BAD);
        Due.due("no finding", x.finding(), 0);
        Due.told(x, "the 40 stand", x.at(0, 39), 0);
        Due.due("rows there", x.count(6), 2);
    }

    private static void rowBelowNone() {
        Due.sentence("Promise 2", "SIZE: below 0");
        OneMatch x = new OneMatch();
        Due.found(x, "-1", x.row(0, -1), Due.SIZE);
        Due.found(x, "least", x.row(0, LEAST), Due.SIZE);
        Due.due("no row by these", x.count(6), 0);
        Due.due("0", x.row(0, 0), 0);
        Due.due("1", x.row(0, 1), 1);
        x.lay(0, 0, 9);
        x.row(0, -1);
        Due.told(x, "the row stays", x.at(0, 0), 9);
        Due.due("how often", x.findings(Due.SIZE), 3);
        Due.due("bad goes first", x.row(6, -1), Due.BAD);
        Due.due("not once more", x.findings(Due.SIZE), 3);
    }

    private static void layTellsWhatItWas() {
        Due.sentence("Promise 3", "Place i of a ROW is v: what it was, told by asked(): 1.");
        OneMatch x = new OneMatch();
        x.row(2, 40);
        int[] values = {0, -1, LEAST, MOST, 1000, -9};
        int was = 0;
        for (int v : values) {
            Due.told(x, "lay " + v, x.lay(2, 39, v), was);
            Due.told(x, "at", x.at(2, 39), v);
            was = v;
        }
        Due.told(x, "the place ahead", x.at(2, 38), 0);
        Due.told(x, "the first place", x.lay(2, 0, 3), 0);
        Due.told(x, "the second place", x.at(2, 1), 0);
    }

    private static void layRefused() {
        Due.sentence("Promise 3", "BAD; NOTHING; BEYOND.");
        OneMatch x = new OneMatch();
        Due.due("row -1", x.lay(-1, 0, 1), Due.BAD);
        Due.due("row 6", x.lay(6, 0, 1), Due.BAD);
        Due.due("row least, place -1", x.lay(LEAST, -1, 1), Due.BAD);
        Due.due("row most", x.lay(MOST, 0, 1), Due.BAD);
        Due.found(x, "missing", x.lay(5, 0, 1), Due.NOTHING);
        Due.found(x, "missing, place -1", x.lay(0, -1, 1), Due.NOTHING);
        x.row(0, 0);
        Due.found(x, "place 0 of none", x.lay(0, 0, 1), Due.BEYOND);
        x.row(0, 3);
        Due.found(x, "place -1", x.lay(0, -1, 1), Due.BEYOND);
        Due.found(x, "place least", x.lay(0, LEAST, 1), Due.BEYOND);
        Due.told(x, "place 0", x.lay(0, 0, 1), 0);
        Due.told(x, "place 2", x.lay(0, 2, 1), 0);
        Due.found(x, "place 3", x.lay(0, 3, 1), Due.BEYOND);
        Due.found(x, "place most", x.lay(0, MOST, 1), Due.BEYOND);
        x.row(0, 40);
        Due.found(x, "place 40 of 40", x.lay(0, 40, 1), Due.BEYOND);
        x.tear(0);
        Due.found(x, "torn", x.lay(0, 0, 1), Due.NOTHING);
    }

    private static void atTells() {
        Due.sentence("Promise 4", "Place i of a ROW, told by asked(): 1.");
        OneMatch x = new OneMatch();
        Due.lay(x, 5, LEAST, 0, MOST);
        Due.told(x, "the first", x.at(5, 0), LEAST);
        Due.told(x, "the middle one", x.at(5, 1), 0);
        Due.told(x, "the last", x.at(5, 2), MOST);
    }

    private static void atRefused() {
        Due.sentence("Promise 4", "BAD; NOTHING; BEYOND.");
        OneMatch x = new OneMatch();
        Due.due("row -1", x.at(-1, 0), Due.BAD);
        Due.due("row 6", x.at(6, 0), Due.BAD);
        Due.due("row least", x.at(LEAST, -1), Due.BAD);
        Due.due("row most", x.at(MOST, 0), Due.BAD);
        Due.found(x, "missing", x.at(5, 0), Due.NOTHING);
        Due.found(x, "missing, place -1", x.at(0, -1), Due.NOTHING);
        x.row(0, 0);
        Due.found(x, "place 0 of none", x.at(0, 0), Due.BEYOND);
        Due.lay(x, 0, 4, 5, 6);
        Due.found(x, "place -1", x.at(0, -1), Due.BEYOND);
        Due.found(x, "place least", x.at(0, LEAST), Due.BEYOND);
        Due.told(x, "place 2", x.at(0, 2), 6);
        Due.found(x, "place 3", x.at(0, 3), Due.BEYOND);
        Due.found(x, "place most", x.at(0, MOST), Due.BEYOND);
        x.row(0, 40);
        Due.found(x, "place 40 of 40", x.at(0, 40), Due.BEYOND);
        Due.due("asked stays", x.asked(), 6);
    }

    private static void tearMissing() {
        Due.sentence("Promise 5", "A ROW is missing: 1.");
        OneMatch x = new OneMatch();
        for (int r = 0; r <= 5; r++) {
            x.row(r, r == 0 ? 0 : 40);
        }
        for (int r = 0; r <= 5; r++) {
            Due.due("tear " + r, x.tear(r), 1);
            Due.due("rows left", x.count(6), 5 - r);
            Due.found(x, "it is missing", x.at(r, 0), Due.NOTHING);
        }
    }

    private static void tearRefused() {
        Due.sentence("Promise 5", "BAD; NOTHING.");
        OneMatch x = new OneMatch();
        Due.due("row -1", x.tear(-1), Due.BAD);
        Due.due("row 6", x.tear(6), Due.BAD);
        Due.due("row least", x.tear(LEAST), Due.BAD);
        Due.due("row most", x.tear(MOST), Due.BAD);
        Due.found(x, "row 0, missing", x.tear(0), Due.NOTHING);
        Due.found(x, "row 5, missing", x.tear(5), Due.NOTHING);
        x.row(5, 0);
        Due.due("a row of none", x.tear(5), 1);
        Due.found(x, "torn twice", x.tear(5), Due.NOTHING);
    }

    private static void copyWithinOneRow() {
        Due.sentence("Promise 6", "n places of a ROW, from one on, come to those of another one (perhaps itself)"
                + " from one on, as if taken ahead: 1.");
        OneMatch x = new OneMatch();
        Due.lay(x, 0, 1, 2, 3, 4);
        Due.due("one on", x.copy(0, 0, 0, 1, 3), 1);
        Due.rowIs(x, "as if taken ahead, on", 0, 1, 1, 2, 3);
        Due.lay(x, 0, 1, 2, 3, 4);
        Due.due("one back", x.copy(0, 1, 0, 0, 3), 1);
        Due.rowIs(x, "as if taken ahead, back", 0, 2, 3, 4, 4);
        Due.due("onto itself", x.copy(0, 0, 0, 0, 4), 1);
        Due.rowIs(x, "the same", 0, 2, 3, 4, 4);
        Due.lay(x, 5, 7, 8, 9);
        Due.due("the last one", x.copy(0, 3, 5, 2, 1), 1);
        Due.rowIs(x, "one place alone", 5, 7, 8, 4);
        Due.rowIs(x, "where it came from", 0, 2, 3, 4, 4);
        Due.due("none", x.copy(0, 0, 5, 0, 0), 1);
        Due.rowIs(x, "none came", 5, 7, 8, 4);
    }

    private static void copyBad() {
        Due.sentence("Promise 6", "BAD");
        OneMatch x = new OneMatch();
        int[] none = {-1, 6, LEAST, MOST};
        for (int r : none) {
            Due.due("from " + r, x.copy(r, 0, 0, 0, -1), Due.BAD);
            Due.due("to " + r, x.copy(0, 0, r, 0, -1), Due.BAD);
        }
        Due.due("no finding", x.finding(), 0);
        x.row(0, 1);
        x.row(5, 1);
        Due.due("from 0 to 5", x.copy(0, 0, 5, 0, 1), 1);
        Due.due("from 5 to 0", x.copy(5, 0, 0, 0, 1), 1);
    }

    private static void copyFewerThanNone() {
        Due.sentence("Promise 6", "SIZE: n below 0");
        OneMatch x = new OneMatch();
        Due.found(x, "-1, both missing", x.copy(0, 0, 1, 0, -1), Due.SIZE);
        Due.lay(x, 0, 1, 2);
        Due.lay(x, 1, 3, 4);
        Due.found(x, "-1", x.copy(0, 0, 1, 0, -1), Due.SIZE);
        Due.found(x, "-1, beyond", x.copy(0, 5, 1, -5, -1), Due.SIZE);
        Due.found(x, "least", x.copy(0, 1, 1, 1, LEAST), Due.SIZE);
        Due.due("0", x.copy(0, 0, 1, 0, 0), 1);
        Due.due("1", x.copy(0, 0, 1, 0, 1), 1);
        Due.rowIs(x, "one came", 1, 1, 4);
    }

    private static void copyEitherMissing() {
        Due.sentence("Promise 6", "NOTHING: either");
        OneMatch x = new OneMatch();
        x.row(0, 2);
        Due.found(x, "where to", x.copy(0, 0, 1, 0, 1), Due.NOTHING);
        Due.found(x, "where from", x.copy(1, 0, 0, 0, 1), Due.NOTHING);
        Due.found(x, "both", x.copy(1, 0, 2, 0, 1), Due.NOTHING);
        Due.found(x, "itself", x.copy(1, 0, 1, 0, 0), Due.NOTHING);
        Due.found(x, "ahead of beyond, from", x.copy(1, 0, 0, 9, 1), Due.NOTHING);
        Due.found(x, "ahead of beyond, to", x.copy(0, 9, 1, 0, 1), Due.NOTHING);
        x.row(1, 0);
        Due.due("a row of none is there", x.copy(0, 0, 1, 0, 0), 1);
    }

    private static void copyBeyond() {
        Due.sentence("Promise 6", "BEYOND: not so many there");
        OneMatch x = new OneMatch();
        Due.lay(x, 0, 1, 2, 3);
        Due.lay(x, 1, 4, 5, 6, 7, 8);
        Due.due("all three", x.copy(0, 0, 1, 2, 3), 1);
        Due.rowIs(x, "all three came", 1, 4, 5, 1, 2, 3);
        Due.found(x, "four of three", x.copy(0, 0, 1, 0, 4), Due.BEYOND);
        Due.found(x, "three from 1 on", x.copy(0, 1, 1, 0, 3), Due.BEYOND);
        Due.due("two from 1 on", x.copy(0, 1, 1, 0, 2), 1);
        Due.found(x, "three to 3 on", x.copy(0, 0, 1, 3, 3), Due.BEYOND);
        Due.due("two to 3 on", x.copy(0, 0, 1, 3, 2), 1);
        Due.found(x, "from -1", x.copy(0, -1, 1, 0, 1), Due.BEYOND);
        Due.found(x, "to -1", x.copy(0, 0, 1, -1, 1), Due.BEYOND);
        Due.due("none from the end to the end", x.copy(0, 3, 1, 5, 0), 1);
        Due.found(x, "none from behind the end", x.copy(0, 4, 1, 0, 0), Due.BEYOND);
        Due.found(x, "none to behind the end", x.copy(0, 0, 1, 6, 0), Due.BEYOND);
        Due.found(x, "none from -1", x.copy(0, -1, 1, 0, 0), Due.BEYOND);
        Due.found(x, "most", x.copy(0, 0, 1, 0, MOST), Due.BEYOND);
        Due.found(x, "most from 1 on", x.copy(0, 1, 0, 1, MOST), Due.BEYOND);
        Due.found(x, "from most on", x.copy(0, MOST, 1, 0, MOST), Due.BEYOND);
        Due.found(x, "to least on", x.copy(0, 0, 1, LEAST, 1), Due.BEYOND);
        Due.rowIs(x, "refusals bring nothing", 1, 2, 3, 1, 1, 2);
    }

    private static void meanIs(int want, int... values) {
        OneMatch x = new OneMatch();
        Due.lay(x, 0, values);
        Due.told(x, "mean of " + values.length, x.mean(0), want);
    }

    private static void meanCut() {
        Due.sentence("Promise 7", "The mean of a ROW's ints, cut, told by asked(): 1.");
        meanIs(7, 7);
        meanIs(1, 1, 2);
        meanIs(2, 1, 2, 3);
        meanIs(0, 0, 1);
        meanIs(0, 0, -1);
        meanIs(-1, -1, -2);
        meanIs(-2, -2, -2, -3);
        meanIs(0, LEAST, MOST);
        int[] most = new int[40];
        int[] least = new int[40];
        java.util.Arrays.fill(most, MOST);
        java.util.Arrays.fill(least, LEAST);
        meanIs(MOST, most);
        meanIs(LEAST, least);
    }

    private static void meanRefused() {
        Due.sentence("Promise 7", "BAD; NOTHING; NOUGHT.");
        OneMatch x = new OneMatch();
        Due.due("row -1", x.mean(-1), Due.BAD);
        Due.due("row 6", x.mean(6), Due.BAD);
        Due.due("row least", x.mean(LEAST), Due.BAD);
        Due.due("row most", x.mean(MOST), Due.BAD);
        Due.found(x, "row 0, missing", x.mean(0), Due.NOTHING);
        Due.found(x, "row 5, missing", x.mean(5), Due.NOTHING);
        x.row(5, 0);
        Due.found(x, "shared among none", x.mean(5), Due.NOUGHT);
        x.row(5, 1);
        Due.told(x, "shared by one", x.mean(5), 0);
    }
}
