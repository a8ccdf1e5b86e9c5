/** Promises 1 to 7: a new object, and ROWS. */
public final class RowsTest {
    public static void main(String[] args) {
        newObject();
        row();
        layAndAt();
        tear();
        copy();
        mean();
        Due.finish("RowsTest");
    }

    private static void newObject() {
        OneMatch x = new OneMatch();
        for (int what = 0; what <= 8; what++) {
            Due.due("count " + what + " of a new object", x.count(what), 0);
        }
        for (int r = 0; r < 6; r++) {
            Due.found(x, "tear of a new object's row", x.tear(r), Due.NOTHING);
        }
        for (int t = 0; t < 4; t++) {
            Due.found(x, "fault of a new object's text", x.fault(t), Due.NOTHING);
        }
        Due.due("fires of a new object", x.fires(), 0);
    }

    private static void row() {
        OneMatch x = new OneMatch();
        Due.due("row 0", x.row(0, 3), 3);
        Due.rowIs(x, "a new row", 0, 0, 0, 0);
        Due.due("row of none", x.row(5, 0), 0);
        Due.due("row of 40", x.row(5, 40), 40);
        Due.due("row of 41", x.row(5, 41), Due.BAD);
        Due.due("rows there", x.count(6), 2);
        Due.due("row -1", x.row(-1, 3), Due.BAD);
        Due.due("row 6", x.row(6, 3), Due.BAD);
        Due.due("row 6 of -1: bad goes first", x.row(6, -1), Due.BAD);
        Due.due("no finding by bad", x.finding() == Due.SIZE ? 1 : 0, 0);
        Due.found(x, "row of -1", x.row(0, -1), Due.SIZE);
        Due.found(x, "row of least", x.row(0, Integer.MIN_VALUE), Due.SIZE);
        Due.rowIs(x, "a refused row changes nothing", 0, 0, 0, 0);
        x.lay(0, 1, 9);
        Due.due("row anew", x.row(0, 2), 2);
        Due.rowIs(x, "a row anew", 0, 0, 0);
    }

    private static void layAndAt() {
        OneMatch x = new OneMatch();
        Due.found(x, "lay in a missing row", x.lay(1, 0, 5), Due.NOTHING);
        Due.found(x, "at of a missing row", x.at(1, 0), Due.NOTHING);
        x.row(1, 2);
        Due.told(x, "lay", x.lay(1, 1, Integer.MIN_VALUE), 0);
        Due.told(x, "lay over", x.lay(1, 1, 7), Integer.MIN_VALUE);
        Due.told(x, "at", x.at(1, 1), 7);
        Due.found(x, "lay at 2", x.lay(1, 2, 5), Due.BEYOND);
        Due.found(x, "lay at -1", x.lay(1, -1, 5), Due.BEYOND);
        Due.found(x, "at 2", x.at(1, 2), Due.BEYOND);
        Due.found(x, "at -1", x.at(1, -1), Due.BEYOND);
        Due.due("asked behind refusals", x.asked(), 7);
        Due.due("lay in row 6", x.lay(6, 0, 5), Due.BAD);
        Due.due("lay in row -1", x.lay(-1, 0, 5), Due.BAD);
        Due.due("at of row 6", x.at(6, 0), Due.BAD);
        Due.due("at of row -1", x.at(-1, 0), Due.BAD);
        Due.rowIs(x, "the row", 1, 0, 7);
    }

    private static void tear() {
        OneMatch x = new OneMatch();
        x.row(2, 4);
        Due.due("tear", x.tear(2), 1);
        Due.due("rows there", x.count(6), 0);
        Due.found(x, "tear again", x.tear(2), Due.NOTHING);
        Due.due("tear -1", x.tear(-1), Due.BAD);
        Due.due("tear 6", x.tear(6), Due.BAD);
        x.row(2, 1);
        Due.rowIs(x, "a row behind tearing", 2, 0);
    }

    private static void copy() {
        OneMatch x = new OneMatch();
        Due.lay(x, 0, 1, 2, 3, 4, 5);
        Due.lay(x, 1, 6, 7, 8);
        Due.due("copy", x.copy(0, 3, 1, 1, 2), 1);
        Due.rowIs(x, "copied", 1, 6, 4, 5);
        Due.due("copy onward in itself", x.copy(0, 0, 0, 1, 4), 1);
        Due.rowIs(x, "copied onward", 0, 1, 1, 2, 3, 4);
        Due.due("copy back in itself", x.copy(0, 1, 0, 0, 4), 1);
        Due.rowIs(x, "copied back", 0, 1, 2, 3, 4, 4);
        Due.due("copy of none at the end", x.copy(0, 5, 1, 3, 0), 1);
        Due.found(x, "copy of none behind the end", x.copy(0, 6, 1, 3, 0), Due.BEYOND);
        Due.found(x, "copy from -1", x.copy(0, -1, 1, 0, 1), Due.BEYOND);
        Due.found(x, "copy to -1", x.copy(0, 0, 1, -1, 1), Due.BEYOND);
        Due.found(x, "copy of too many", x.copy(0, 3, 1, 0, 3), Due.BEYOND);
        Due.found(x, "copy to too few", x.copy(0, 0, 1, 2, 2), Due.BEYOND);
        Due.found(x, "copy of most", x.copy(0, 1, 1, 1, Integer.MAX_VALUE), Due.BEYOND);
        Due.found(x, "copy from most", x.copy(0, Integer.MAX_VALUE, 1, 0, 1), Due.BEYOND);
        Due.found(x, "copy of -1", x.copy(0, 0, 1, 0, -1), Due.SIZE);
        Due.found(x, "copy of -1 from a missing row", x.copy(4, 0, 1, 0, -1), Due.SIZE);
        Due.found(x, "copy from a missing row", x.copy(4, 0, 1, 0, 1), Due.NOTHING);
        Due.found(x, "copy to a missing row", x.copy(0, 0, 4, 0, 99), Due.NOTHING);
        Due.due("copy from row 6", x.copy(6, 0, 1, 0, -1), Due.BAD);
        Due.due("copy to row 6", x.copy(0, 0, 6, 0, 1), Due.BAD);
        Due.due("copy from row -1", x.copy(-1, 0, 1, 0, 1), Due.BAD);
        Due.due("copy to row -1", x.copy(0, 0, -1, 0, 1), Due.BAD);
        Due.rowIs(x, "refusals change nothing", 1, 6, 4, 5);
    }

    private static void mean() {
        OneMatch x = new OneMatch();
        Due.lay(x, 0, 1, 2, 4);
        Due.told(x, "mean", x.mean(0), 2);
        Due.lay(x, 0, 1);
        Due.told(x, "mean of one", x.mean(0), 1);
        Due.lay(x, 0, 3, 3, 90);
        x.row(0, 2);
        Due.told(x, "nothing of the row that was there", x.mean(0), 0);
        Due.lay(x, 0, -1, -2, -4);
        Due.told(x, "mean below 0 is cut", x.mean(0), -2);
        Due.lay(x, 0, Integer.MAX_VALUE, Integer.MAX_VALUE, Integer.MAX_VALUE);
        Due.told(x, "mean of most", x.mean(0), Integer.MAX_VALUE);
        Due.found(x, "mean of a missing row", x.mean(1), Due.NOTHING);
        x.row(1, 0);
        Due.found(x, "mean of none", x.mean(1), Due.NOUGHT);
        Due.due("asked behind refusals", x.asked(), Integer.MAX_VALUE);
        Due.due("mean of row 6", x.mean(6), Due.BAD);
        Due.due("mean of row -1", x.mean(-1), Due.BAD);
    }
}
