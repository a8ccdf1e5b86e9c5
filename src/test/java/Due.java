import java.util.Arrays;

/** What the tests share: answers compared with those that are due, villages and rows laid in one go. */
final class Due {
    static final int BAD = OneMatch.BAD, FULL = OneMatch.FULL, FINDING = OneMatch.FINDING;
    static final int STATE = OneMatch.STATE, NONE = OneMatch.NONE;
    static final int NOTHING = 1, BEYOND = 2, UNLIKE = 3, NOUGHT = 4, SIZE = 5;
    static final int NO_MOVE = 36;

    private static int checks = 0;
    private static int wrong = 0;
    private static String sentence = "";

    private Due() {
    }

    /** Names the sentence of the document to which the next answers belong, and the heading above it. */
    static void sentence(String heading, String words) {
        sentence = heading + ", \"" + words + "\": ";
    }

    static void due(String what, long got, long want) {
        checks++;
        if (got != want) {
            wrong++;
            System.out.println(sentence + what + " answered " + got + ", due is " + want);
        }
    }

    /** A refusal by a FINDING, which finding() and findings() tell too. */
    static void found(OneMatch x, String what, long got, int finding) {
        due(what, got, FINDING);
        due(what + ": finding()", x.finding(), finding);
    }

    /** An answer of 1, and what asked() tells then. */
    static void told(OneMatch x, String what, long got, int asked) {
        due(what, got, 1);
        due(what + ": asked()", x.asked(), asked);
    }

    /** An answer, and what asked() tells then. */
    static void both(OneMatch x, String what, long got, long want, int asked) {
        due(what, got, want);
        due(what + ": asked()", x.asked(), asked);
    }

    static void chance(OneMatch x, String what, long got, long upper, long lower) {
        due(what, got, 1);
        due(what + ": upper()", x.upper(), upper);
        due(what + ": lower()", x.lower(), lower);
    }

    static void write(OneMatch x, int t, String text) {
        x.text(t, text.length());
        for (int i = 0; i < text.length(); i++) {
            x.put(t, i, text.charAt(i));
        }
    }

    static OneMatch village(String text) {
        OneMatch x = new OneMatch();
        write(x, 0, text);
        if (x.village(0) < 0) {
            due("village of '" + text + "'", x.village(0), 1);
        }
        return x;
    }

    static void lay(OneMatch x, int r, int... values) {
        x.row(r, values.length);
        for (int i = 0; i < values.length; i++) {
            x.lay(r, i, values[i]);
        }
    }

    /** The places of a ROW as they are, up to the one that is BEYOND. */
    static void rowIs(OneMatch x, String what, int r, int... values) {
        int[] got = new int[values.length];
        for (int i = 0; i < values.length; i++) {
            due(what + ": at " + i, x.at(r, i), 1);
            got[i] = x.asked();
        }
        due(what + ": row " + Arrays.toString(got), Arrays.equals(got, values) ? 1 : 0, 1);
        due(what + ": size", x.at(r, values.length), FINDING);
    }

    /** Something that is so or not. */
    static void holds(String what, boolean so) {
        due(what, so ? 1 : 0, 1);
    }

    /** A village in which the match was struck. */
    static OneMatch struck(String text, int h) {
        OneMatch x = village(text);
        due("strike " + h + " in '" + text + "'", x.strike(h), 1);
        return x;
    }

    static void hours(OneMatch x, int n) {
        for (int i = 0; i < n; i++) {
            x.hour();
        }
    }

    static int fact(OneMatch x, int h, int what) {
        x.house(h, what);
        return x.asked();
    }

    static void finish(String name) {
        System.out.println(name + ": " + checks + " answers looked at, " + wrong + " not as due");
        if (wrong != 0 || checks == 0) {
            System.exit(1);
        }
    }
}
