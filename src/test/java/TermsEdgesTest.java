/** The edges that the document's head and Terms name: refusals, FINDINGS, numbers told, ROWS, TEXTS. */
public final class TermsEdgesTest {
    private static final int LEAST = Integer.MIN_VALUE, MOST = Integer.MAX_VALUE;

    public static void main(String[] args) {
        fiveHundredTwelveCalls();
        laterCallsAreFree();
        refusedInOrder();
        refusedOtherwise();
        nobodyIsSpent();
        noneIsNoRefusal();
        refusedChangesNothing();
        findings();
        lowestTerms();
        setsByBits();
        rowsAndTexts();
        noHousesAtFirst();
        Due.finish("TermsEdgesTest");
    }

    private static void fiveHundredTwelveCalls() {
        Due.sentence("What it is", "An object is used for at most 512 calls after it has been made;");
        OneMatch x = new OneMatch();
        Due.due("call 1", x.row(0, 1), 1);
        for (int call = 2; call <= 511; call++) {
            Due.due("call " + call, x.lay(0, 0, call), 1);
        }
        Due.due("call 512", x.asked(), 510);
        x = new OneMatch();
        for (int call = 1; call <= 511; call++) {
            Due.due("finding by call " + call, x.tear(0), Due.FINDING);
        }
        Due.due("findings by call 512", x.findings(Due.NOTHING), 511);
    }

    private static void laterCallsAreFree() {
        Due.sentence("What it is", "what later calls answer is free.");
        OneMatch x = Due.struck("v0t90-t90-", 0);
        for (int call = 0; call < 3000; call++) {
            x.lots(1, 1 + call);
            x.undo(1);
            x.ways(1, 4);
        }
        Due.holds("none of them throws", true);
    }

    private static void refusedInOrder() {
        Due.sentence("Terms", "Refused is, the first of these that fits, in this order: BAD -1 (a number that is none, or"
                + " not as told), FULL -2, STATE -4 (not now), SPENT -6 (more than told), FINDING -3 (finding() tells"
                + " which), unless a call says so otherwise.");
        OneMatch x = new OneMatch();
        Due.due("bad ahead of finding", x.copy(6, 0, 0, 0, -1), Due.BAD);
        Due.due("bad ahead of state", x.wind(-1), Due.BAD);
        Due.due("bad ahead of state", x.keep(3), Due.BAD);
        Due.due("bad ahead of state", x.most(5, 0), Due.BAD);
        Due.due("state ahead of finding", x.run(0), Due.STATE);
        Due.due("state ahead of finding", x.smoke(0), Due.STATE);
        Due.due("state ahead of finding", x.hides(0, 0), Due.STATE);
        Due.due("none of these was a finding", x.finding(), 0);
        x = Due.struck("v0h90-", 0);
        Due.due("bad ahead of state, deeds", x.stack(0, 10), Due.BAD);
        Due.due("bad ahead of finding, kind", x.mark(1, 1), Due.BAD);
        Due.due("bad ahead of finding, chance", x.odds(0, 0, 13), Due.BAD);
    }

    private static void refusedOtherwise() {
        Due.sentence("Terms", "unless a call says so otherwise.");
        OneMatch x = Due.village("v0h90-h91-");
        Due.found(x, "village: state behind nothing", x.village(1), Due.NOTHING);
        Due.hours(x, 40);
        Due.due("strike: full behind state", x.strike(1), Due.STATE);
        Due.due("strike: full", x.strike(0), Due.FULL);
        Due.due("carry: full behind state", x.carry(0, 1), Due.STATE);
        Due.due("lots: full behind bad", x.lots(0, 1), Due.BAD);
        Due.due("lots: full", x.lots(1, 1), Due.FULL);
    }

    private static void nobodyIsSpent() {
        Due.sentence("Terms", "SPENT -6 (more than told)");
        // no promise names it: with all that is left used up, others are answered
        OneMatch x = Due.struck("v0h10-", 0);
        x.hour();
        Due.due("the match is struck and out", x.strike(0), Due.STATE);
        Due.hours(x, 38);
        Due.due("all deeds done", x.hour(), Due.FULL);
        Due.due("the constant", OneMatch.SPENT, -6);
    }

    private static void noneIsNoRefusal() {
        Due.sentence("Terms", "NONE -9.");
        OneMatch x = Due.village("v0h91-");
        Due.due("the constant", OneMatch.NONE, -9);
        Due.due("no fault", x.fault(0), -9);
        Due.due("no plan", x.plan(0, 4, 0), -9);
        x.house(0, 3);
        Due.due("no need", x.asked(), -9);
        x.where();
        Due.due("nowhere", x.asked(), -9);
        Due.due("no finding", x.finding(), 0);
    }

    private static void refusedChangesNothing() {
        Due.sentence("Terms", "What is refused changes nothing but finding(), findings().");
        // EveryEdgeTest looks at each call; here the told numbers and the hour's embers by hand
        OneMatch x = Due.struck("v0h90-h90-h90-", 0);
        x.carry(0, 1);
        Due.lay(x, 0, 1);
        x.odds(0, 0, 3);
        x.house(0, 1);
        long before = x.digest();
        Due.found(x, "row", x.row(0, -1), Due.SIZE);
        Due.found(x, "tear", x.tear(1), Due.NOTHING);
        Due.found(x, "mark", x.mark(0, 5), Due.UNLIKE);
        Due.due("carry", x.carry(0, 2), Due.STATE);
        Due.due("strike", x.strike(2), Due.STATE);
        Due.due("undo", x.undo(3), Due.BAD);
        Due.due("ways", x.ways(3, 1), Due.BAD);
        Due.due("lots", x.lots(11, 1), Due.BAD);
        Due.due("digest", x.digest(), before);
        Due.due("asked", x.asked(), 9);
        Due.due("upper", x.upper(), 1);
        Due.due("lower", x.lower(), 1);
        Due.due("finding", x.finding(), Due.UNLIKE);
        Due.due("findings", x.findings(Due.SIZE) + x.findings(Due.NOTHING) + x.findings(Due.UNLIKE), 3);
        Due.due("carried in this hour still", x.reach(), 0);
    }

    private static void findings() {
        Due.sentence("Terms", "FINDINGS: 1 NOTHING (a ROW, a TEXT, a kept VILLAGE that is missing), 2 BEYOND (a place that"
                + " there is not), 3 UNLIKE (a HOUSE of another KIND; a number that is none), 4 NOUGHT (shared among"
                + " none), 5 SIZE (fewer than none; too many, not as many as due).");
        OneMatch x = Due.village("v0h90-");
        Due.found(x, "a row that is missing", x.at(0, 0), 1);
        Due.found(x, "a text that is missing", x.put(1, 0, 0), 1);
        Due.found(x, "a kept village that is missing", x.on(0), 1);
        x.row(0, 0);
        Due.found(x, "a place that there is not", x.lay(0, 0, 0), 2);
        Due.found(x, "a house of another kind", x.mark(0, 3), 3);
        Due.lay(x, 1, 37);
        Due.found(x, "a number that is none", x.run(1), 3);
        Due.found(x, "shared among none", x.mean(0), 4);
        Due.found(x, "fewer than none", x.text(0, -1), 5);
        x.row(2, 11);
        Due.found(x, "too many", x.run(2), 5);
        Due.found(x, "not as many as due", x.smoke(0), 5);
    }

    private static void lowestTerms() {
        Due.sentence("Terms", "Chances, numbers are told by upper(), lower(), in lowest terms, the lower number above 0"
                + " (0 by 1).");
        OneMatch x = Due.struck("v0h90-h90-", 0);
        Due.chance(x, "a number by 1", x.ways(0, 1), 2, 1);
        Due.lay(x, 0, 1);
        Due.chance(x, "6 of 12", x.odds(1, 0, 6), 1, 2);
        Due.chance(x, "11 of 12", x.odds(1, 0, 1), 11, 12);
        Due.chance(x, "12 of 12", x.odds(1, 0, 0), 1, 1);
        Due.chance(x, "0 of 12", x.odds(1, 0, 12), 0, 1);
        Due.lay(x, 0, 1, 1, 1, 1);
        Due.chance(x, "0 of 20736", x.odds(1, 0, 12), 0, 1);
        Due.chance(x, "20736 of 20736", x.odds(0, 0, 12), 1, 1);
        Due.chance(x, "20735 of 20736", x.odds(1, 0, 1), 20735, 20736);
        Due.lay(x, 0, 0);
        Due.chance(x, "no ways", x.smoke(0), 0, 1);
    }

    private static void setsByBits() {
        Due.sentence("Terms", "Sets (of HOUSES) are told by bits.");
        for (int h = 0; h < 5; h++) {
            OneMatch x = Due.village("v2h00-h00-h00-h00-h00-");
            x.stack(h, 9);
            Due.both(x, "house " + h, x.where(), 1 << h, h);
            x.strike(h);
            Due.both(x, "house " + h + " burns", x.fires(), 1 << h, 1 << h);
            Due.due("house " + h + " can", x.can(4), 1 << h);
            Due.lay(x, 0, 1 << h);
            Due.due("house " + h + " hides", x.hides(0, 0), h);
            Due.told(x, "house " + h + " smokes", x.smoke(0), 1 << h);
        }
    }

    private static void rowsAndTexts() {
        Due.sentence("Terms", "======== 1 ROWS 0 .. 5 are rows of 0 to 40 ints, TEXTS 0 .. 3 rows of 0 to 60 bytes, or"
                + " missing (at first).");
        OneMatch x = new OneMatch();
        for (int r = -1; r <= 6; r++) {
            boolean isRow = r >= 0 && r <= 5;
            Due.due("missing row " + r, x.tear(r), isRow ? Due.FINDING : Due.BAD);
            Due.due("row " + r + " of 0", x.row(r, 0), isRow ? 0 : Due.BAD);
            Due.due("row " + r + " of 40", x.row(r, 40), isRow ? 40 : Due.BAD);
            Due.due("row " + r + " of 41", x.row(r, 41), Due.BAD);
            Due.due("row " + r + " of -1", x.row(r, -1), isRow ? Due.FINDING : Due.BAD);
        }
        for (int t = -1; t <= 4; t++) {
            boolean isText = t >= 0 && t <= 3;
            Due.due("missing text " + t, x.fault(t), isText ? Due.FINDING : Due.BAD);
            Due.due("text " + t + " of 0", x.text(t, 0), isText ? 0 : Due.BAD);
            Due.due("text " + t + " of 60", x.text(t, 60), isText ? 60 : Due.BAD);
            Due.due("text " + t + " of 61", x.text(t, 61), Due.BAD);
            Due.due("text " + t + " of -1", x.text(t, -1), isText ? Due.FINDING : Due.BAD);
        }
        Due.told(x, "ints", x.lay(5, 39, LEAST), 0);
        Due.told(x, "least", x.lay(5, 39, MOST), LEAST);
        Due.told(x, "most", x.at(5, 39), MOST);
    }

    private static void noHousesAtFirst() {
        Due.sentence("Terms", "A VILLAGE (without HOUSES at first) is a TEXT:");
        OneMatch x = new OneMatch();
        Due.due("houses", x.count(0), 0);
        Due.due("house 0", x.house(0, 0), Due.BAD);
        Due.due("an hour", x.hour(), Due.STATE);
        Due.write(x, 0, "v0h90-");
        Due.due("a text alone is no village", x.count(0), 0);
        Due.due("a village", x.village(0), 1);
        Due.due("then houses", x.count(0), 1);
    }
}
