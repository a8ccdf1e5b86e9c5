/** The edges that promises 8 to 11 and the small language name: TEXTS, FAULTS, VILLAGES. */
public final class TextEdgesTest {
    private static final int LEAST = Integer.MIN_VALUE, MOST = Integer.MAX_VALUE;

    public static void main(String[] args) {
        textIsThere();
        textTooLarge();
        textBelowNone();
        putCuts();
        putRefused();
        blanks();
        winds();
        houses();
        figures();
        need();
        faultAtItsPlace();
        faultAtTheEnd();
        kindsAndLetters();
        faultTold();
        faultRefused();
        villageAnew();
        villageRefused();
        villageMissing();
        Due.finish("TextEdgesTest");
    }

    private static void textIsThere() {
        Due.sentence("Promise 8", "A TEXT is there with n blanks: n.");
        int[] sizes = {60, 0, 59, 1, 60};
        for (int t = 0; t <= 3; t++) {
            OneMatch x = new OneMatch();
            for (int n : sizes) {
                Due.due("text of " + n, x.text(t, n), n);
                Due.due("texts there", x.count(7), 1);
                for (int i = 0; i < n; i++) {
                    Due.due("blank " + i + " of " + n, x.put(t, i, 118), 1032);
                }
                Due.found(x, "behind the last", x.put(t, n, 118), Due.BEYOND);
            }
        }
    }

    private static void textTooLarge() {
        Due.sentence("Promise 8", "BAD: also n above 60");
        OneMatch x = new OneMatch();
        Due.due("59", x.text(0, 59), 59);
        Due.due("60", x.text(0, 60), 60);
        Due.due("61", x.text(0, 61), Due.BAD);
        Due.due("most", x.text(0, MOST), Due.BAD);
        Due.due("text -1", x.text(-1, 1), Due.BAD);
        Due.due("text 4", x.text(4, 1), Due.BAD);
        Due.due("text 3", x.text(3, 1), 1);
        Due.due("text least", x.text(LEAST, 1), Due.BAD);
        Due.due("text most", x.text(MOST, 1), Due.BAD);
        Due.due("no finding", x.finding(), 0);
        Due.due("the 60 stand", x.put(0, 59, 0), 1032);
        Due.due("texts there", x.count(7), 2);
    }

    private static void textBelowNone() {
        Due.sentence("Promise 8", "SIZE: below 0");
        OneMatch x = new OneMatch();
        Due.found(x, "-1", x.text(3, -1), Due.SIZE);
        Due.found(x, "least", x.text(3, LEAST), Due.SIZE);
        Due.due("no text by these", x.count(7), 0);
        Due.due("0", x.text(3, 0), 0);
        Due.due("1", x.text(3, 1), 1);
        x.put(3, 0, 65);
        x.text(3, -1);
        Due.due("the text stays", x.put(3, 0, 66), 1065);
        Due.due("bad goes first", x.text(4, -1), Due.BAD);
        Due.due("how often", x.findings(Due.SIZE), 3);
    }

    private static void putCuts() {
        Due.sentence("Promise 9", "Byte i of a TEXT is v, cut to a byte: what it was, and 1000 more.");
        int[] values = {0, 127, 128, 255, 256, -1, -128, -129, LEAST, MOST, 300};
        int[] bytes = {0, 127, -128, -1, 0, -1, -128, 127, 0, -1, 44};
        OneMatch x = new OneMatch();
        x.text(2, 60);
        int was = 32;
        for (int i = 0; i < values.length; i++) {
            Due.due("put " + values[i], x.put(2, 59, values[i]), 1000 + was);
            was = bytes[i];
        }
        Due.due("the last", x.put(2, 59, 0), 1044);
        Due.due("the place ahead", x.put(2, 58, 0), 1032);
        Due.due("the first place", x.put(2, 0, 0), 1032);
    }

    private static void putRefused() {
        Due.sentence("Promise 9", "BAD; NOTHING; BEYOND.");
        OneMatch x = new OneMatch();
        Due.due("text -1", x.put(-1, 0, 1), Due.BAD);
        Due.due("text 4", x.put(4, 0, 1), Due.BAD);
        Due.due("text least", x.put(LEAST, -1, 1), Due.BAD);
        Due.due("text most", x.put(MOST, 0, 1), Due.BAD);
        Due.found(x, "missing", x.put(3, 0, 1), Due.NOTHING);
        Due.found(x, "missing, place -1", x.put(0, -1, 1), Due.NOTHING);
        x.text(0, 0);
        Due.found(x, "place 0 of none", x.put(0, 0, 1), Due.BEYOND);
        x.text(0, 2);
        Due.found(x, "place -1", x.put(0, -1, 1), Due.BEYOND);
        Due.found(x, "place least", x.put(0, LEAST, 1), Due.BEYOND);
        Due.due("place 1", x.put(0, 1, 1), 1032);
        Due.found(x, "place 2", x.put(0, 2, 1), Due.BEYOND);
        Due.found(x, "place most", x.put(0, MOST, 1), Due.BEYOND);
        x.text(0, 60);
        Due.found(x, "place 60 of 60", x.put(0, 60, 1), Due.BEYOND);
    }

    /** The FAULT of a text with another byte at one place. */
    private static int faultWith(String text, int place, int sign) {
        OneMatch x = new OneMatch();
        Due.write(x, 0, text);
        x.put(0, place, sign);
        return x.fault(0);
    }

    private static void faultIs(String text, int want) {
        OneMatch x = new OneMatch();
        Due.write(x, 0, text);
        Due.due("fault of '" + text + "'", x.fault(0), want);
    }

    private static void blanks() {
        Due.sentence("Terms", "blanks (32) ahead, between, behind as many as wanted, none within items.");
        faultIs("v0h10-p21-", Due.NONE);
        faultIs(" v0 h10- p21- ", Due.NONE);
        faultIs("   v0   h10-   p21-   ", Due.NONE);
        faultIs(" ".repeat(54) + "v0h10-", Due.NONE);
        faultIs("v0" + " ".repeat(54) + "h10-", Due.NONE);
        faultIs("v0h10-" + " ".repeat(54), Due.NONE);
        faultIs("v0h10-" + " ".repeat(50) + "h10-", Due.NONE);
        String[] within = {"v 0h10-", "v0 1h10-", "v0h 10-", "v0h1 0-", "v0h10 -"};
        int[] places = {1, 3, 3, 4, 5};
        for (int i = 0; i < within.length; i++) {
            faultIs(within[i], places[i]);
        }
        int[] noBlanks = {31, 33, 9, 10, 0, 160, -96, 32 + 128};
        for (int sign : noBlanks) {
            Due.due("no blank ahead: " + sign, faultWith(" v0h10-", 0, sign), 0);
            Due.due("no blank between: " + sign, faultWith("v0 h10-", 2, sign), 2);
            Due.due("no blank behind: " + sign, faultWith("v0h10- ", 6, sign), 6);
        }
        Due.due("a blank by its last byte", faultWith("v0xh10-", 2, 256 + 32), Due.NONE);
    }

    private static void winds() {
        Due.sentence("Terms", "The first item is v (118) and WINDS of HOURS 0, 1, .. (1 to 6 figures 0 .. 2,"
                + " as many as stand together; after the last one the first again).");
        faultIs("vh10-", 1);
        faultIs("v0h10-", Due.NONE);
        faultIs("v01201h10-", Due.NONE);
        faultIs("v012012h10-", Due.NONE);
        faultIs("v0120120h10-", 7);
        faultIs("  v0120120h10-", 9);
        faultIs("v3h10-", 1);
        faultIs("v01203h10-", 5);
        for (int sign = -128; sign <= 127; sign++) {
            Due.due("v or " + sign, faultWith("v0h10-", 0, sign), sign == 118 ? Due.NONE : sign == 32 ? 1 : 0);
            Due.due("figure or " + sign, faultWith("v0h10-", 1, sign), sign >= 48 && sign <= 50 ? Due.NONE : 1);
        }
        for (int many = 1; many <= 6; many++) {
            String figures = "210120".substring(0, many);
            OneMatch x = Due.village("v" + figures + "h10-");
            for (int hour = 0; hour <= 2 * many; hour++) {
                Due.due("wind " + hour + " of " + figures, x.wind(hour), figures.charAt(hour % many) - '0');
            }
        }
    }

    private static void houses() {
        Due.sentence("Terms", "Then HOUSES (1 to 5; 0, 1, .. as they come, along a lane)");
        faultIs("v0", 2);
        faultIs("v0 ", 3);
        for (int many = 1; many <= 5; many++) {
            OneMatch x = new OneMatch();
            Due.write(x, 0, "v0" + "h10-p21-s32-d43-t51-".substring(0, 4 * many));
            Due.due("fault of " + many, x.fault(0), Due.NONE);
            Due.due("village of " + many, x.village(0), many);
            int[] kinds = {0, 1, 2, 3, 4};
            for (int h = 0; h < many; h++) {
                Due.due("kind of " + h, Due.fact(x, h, 0), kinds[h]);
                Due.due("wood of " + h, Due.fact(x, h, 1), h + 1);
            }
            Due.due("no house " + many, x.house(many, 0), Due.BAD);
        }
        faultIs("v0h10-h10-h10-h10-h10-h10-", 22);
        faultIs("v0h10-h10-h10-h10-h10-  h10-", 24);
    }

    private static void figures() {
        Due.sentence("Terms", "a letter, WOOD (0 .. 9), WET (0 .. 3), one figure each");
        for (int sign = -128; sign <= 127; sign++) {
            boolean isWood = sign >= 48 && sign <= 57;
            boolean isWet = sign >= 48 && sign <= 51;
            Due.due("wood " + sign, faultWith("v0h10-", 3, sign), isWood ? Due.NONE : 3);
            Due.due("wet " + sign, faultWith("v0h10-", 4, sign), isWet ? Due.NONE : 4);
        }
        for (int wood = 0; wood <= 9; wood++) {
            OneMatch x = Due.village("v0h10-i" + wood + wood % 4 + "-");
            Due.due("wood is " + wood, Due.fact(x, 1, 1), wood);
            Due.due("wet is " + wood % 4, Due.fact(x, 1, 2), wood % 4);
        }
        faultIs("v0h1110", 6);
    }

    private static void need() {
        Due.sentence("Terms", "the HOUR at which it NEEDS fire (one figure 0 .. 9, or - (45): none).");
        for (int sign = -128; sign <= 127; sign++) {
            boolean isHour = sign >= 48 && sign <= 57;
            Due.due("need " + sign, faultWith("v0h10-", 5, sign), isHour || sign == 45 ? Due.NONE : 5);
        }
        for (int hour = 0; hour <= 9; hour++) {
            OneMatch x = Due.village("v0h10-h10" + hour);
            Due.due("need is " + hour, Due.fact(x, 1, 3), hour);
            Due.due("need is none", Due.fact(x, 0, 3), Due.NONE);
        }
        faultIs("v0h1010", 6);
        faultIs("v0h10--", 6);
    }

    private static void faultAtItsPlace() {
        Due.sentence("Terms", "A FAULT is the first place at which it can't go on so (a letter, a figure that is none"
                + " such, a seventh WIND, a sixth HOUSE: its place;");
        for (int sign = -128; sign <= 127; sign++) {
            boolean isLetter = sign > 0 && "hpsdti".indexOf(sign) >= 0;
            // a wind's figure goes on with the winds, a blank with the blanks: then the next one is wrong
            int want = isLetter ? Due.NONE : sign >= 48 && sign <= 50 ? 5 : sign == 32 ? 3 : 2;
            Due.due("letter " + sign, faultWith("v0h10-", 2, sign), want);
            Due.due("second letter " + sign, faultWith("v0h10-h10-", 6, sign),
                    isLetter ? Due.NONE : sign == 32 ? 7 : 6);
            Due.due("behind the fifth " + sign, faultWith("v0h10-h10-h10-h10-h10- ", 22, sign),
                    sign == 32 ? Due.NONE : 22);
        }
        faultIs("x3H99x", 0);
        faultIs("v3H99x", 1);
        faultIs("v0H99x", 2);
        faultIs("v0hx9x", 3);
        faultIs("v0h99x", 4);
        faultIs("v0h93x", 5);
        faultIs("v0120120", 7);
        faultIs("v012012h10-h10-h10-h10-h10-h", 27);
    }

    private static void faultAtTheEnd() {
        Due.sentence("Terms", "the TEXT's size, if its end comes too early, or there is no HOUSE,"
                + " or there are blanks alone).");
        String whole = "v0 h10- h10-";
        int[] wholeOnes = {7, 8, 12};
        for (int size = 0; size <= whole.length(); size++) {
            boolean isWhole = java.util.Arrays.binarySearch(wholeOnes, size) >= 0;
            faultIs(whole.substring(0, size), isWhole ? Due.NONE : size);
        }
        for (int size = 0; size <= 60; size++) {
            faultIs(" ".repeat(size), size);
            faultIs("v0" + " ".repeat(Math.min(58, size)), Math.min(60, size + 2));
        }
        faultIs(" ".repeat(59) + "v", 60);
        faultIs(" ".repeat(58) + "v0", 60);
        faultIs("v0" + " ".repeat(55) + "h10", 60);
        faultIs("v0" + " ".repeat(54) + "h10-", Due.NONE);
    }

    private static void kindsAndLetters() {
        Due.sentence("Terms", "KINDS of HOUSES and letters: 0 HOUSE (h, 104), 1 PEAT (p, 112; a HOUSE),"
                + " 2 STOVE (s, 115; a HOUSE), 3 DRAUGHT (d, 100; a HOUSE), 4 POT (t, 116; a PEAT),"
                + " 5 TILE (i, 105; a STOVE).");
        int[] letters = {104, 112, 115, 100, 116, 105};
        for (int kind = 0; kind <= 5; kind++) {
            OneMatch x = new OneMatch();
            Due.write(x, 0, "v0x10-");
            x.put(0, 2, letters[kind]);
            Due.due("village of " + letters[kind], x.village(0), 1);
            Due.due("kind by " + letters[kind], Due.fact(x, 0, 0), kind);
            Due.due("a capital letter", faultWith("v0x10-", 2, letters[kind] - 32), 2);
        }
    }

    private static void faultTold() {
        Due.sentence("Promise 10", "A FAULT of a TEXT; NONE: there is none.");
        OneMatch x = new OneMatch();
        for (int t = 0; t <= 3; t++) {
            x.text(t, t);
            Due.due("text " + t, x.fault(t), t);
        }
        Due.write(x, 3, "v0h10-");
        long before = x.digest();
        Due.due("none", x.fault(3), Due.NONE);
        Due.due("no village by it", x.count(0), 0);
        Due.due("nothing changed", x.digest(), before);
        Due.due("a fault is no finding", x.finding(), 0);
        x.text(3, 0);
        Due.due("a text of none", x.fault(3), 0);
        Due.write(x, 3, "v012012h10-h10-h10-h10-h10-");
        for (int i = 0; i < 3; i++) {
            Due.due("as often as one asks", x.fault(3), Due.NONE);
        }
    }

    private static void faultRefused() {
        Due.sentence("Promise 10", "BAD; NOTHING.");
        OneMatch x = new OneMatch();
        Due.due("text -1", x.fault(-1), Due.BAD);
        Due.due("text 4", x.fault(4), Due.BAD);
        Due.due("text least", x.fault(LEAST), Due.BAD);
        Due.due("text most", x.fault(MOST), Due.BAD);
        Due.found(x, "text 0, missing", x.fault(0), Due.NOTHING);
        Due.found(x, "text 3, missing", x.fault(3), Due.NOTHING);
    }

    private static void villageAnew() {
        Due.sentence("Promise 11", "A VILLAGE by a TEXT (anew: HOUR 0, no DEEDS; kept VILLAGES go): how many HOUSES.");
        OneMatch x = Due.village("v12h30-i23-");
        x.strike(0);
        x.carry(0, 1);
        x.hour();
        x.keep(0);
        x.keep(2);
        x.carry(1, 0);
        Due.due("the same text anew", x.village(0), 2);
        Due.due("hour", x.count(1), 0);
        Due.due("struck", x.count(2), 0);
        Due.due("deeds", x.count(3), 0);
        Due.due("wood", x.count(4), 5);
        Due.due("wet", Due.fact(x, 1, 2), 3);
        Due.due("fires", x.fires(), 0);
        Due.due("kept", x.count(8), 0);
        for (int k = 0; k <= 2; k++) {
            Due.found(x, "on " + k, x.on(k), Due.NOTHING);
        }
        Due.due("nothing to undo", x.undo(1), Due.BAD);
        x.strike(0);
        Due.due("nothing was carried in this hour", x.reach(), 2);
        x.put(0, 1, 'x');
        Due.due("the text goes its own way", x.wind(0), 1);
        String[] villages = {"v012012 h90-p81-s72-", "v2 d11-", "v10 i00-i23-t90-"};
        for (String text : villages) {
            Due.write(x, 1, text);
            x.fault(1);
            int houses = x.village(1);
            OneMatch y = Due.village(text);
            Due.due("houses of '" + text + "'", houses, y.count(0));
            for (int hour = 0; hour <= 12; hour++) {
                Due.due("winds of '" + text + "' alone, hour " + hour, x.wind(hour), y.wind(hour));
            }
            for (int h = 0; h < houses; h++) {
                for (int what = 0; what <= 5; what++) {
                    Due.due("house " + h + " of '" + text + "', " + what, Due.fact(x, h, what), Due.fact(y, h, what));
                }
            }
        }
    }

    private static void villageRefused() {
        Due.sentence("Promise 11", "BAD; NOTHING; STATE: a FAULT.");
        OneMatch x = new OneMatch();
        Due.due("text -1", x.village(-1), Due.BAD);
        Due.due("text 4", x.village(4), Due.BAD);
        Due.due("text least", x.village(LEAST), Due.BAD);
        Due.due("text most", x.village(MOST), Due.BAD);
        Due.write(x, 3, "v0h10");
        Due.due("a fault at its end", x.village(3), Due.STATE);
        Due.due("a state is no finding", x.finding(), 0);
        Due.write(x, 3, "v0h10-");
        Due.due("one byte more", x.village(3), 1);
        Due.write(x, 3, "v1p20-p20-x");
        Due.due("one byte too many", x.village(3), Due.STATE);
        Due.due("the village stays", x.count(0), 1);
        Due.due("its wood stays", x.count(4), 1);
        Due.due("its wind stays", x.wind(0), 0);
        Due.due("its kind stays", Due.fact(x, 0, 0), 0);
    }

    private static void villageMissing() {
        Due.sentence("Promise 11", "(STATE behind NOTHING.)");
        OneMatch x = new OneMatch();
        for (int t = 0; t <= 3; t++) {
            Due.found(x, "missing " + t, x.village(t), Due.NOTHING);
        }
        x.text(0, 0);
        Due.due("a text of none has a fault", x.village(0), Due.STATE);
    }
}
