/** The edges that sections 3 and 3b of the document and promises 26 to 42 name, each with a test of its own. */
public final class DifferEdgesTest {
    private static final Checks c = new Checks();
    private static final int FAR = Integer.MAX_VALUE;
    private static final int FAR_BELOW = Integer.MIN_VALUE;
    private static final String TWO = "town a;town b;kind x;boat a 6;";
    private static final String THREE = "town a;town b;town c;kind x;boat a 6;";
    private static final String FOUR = "town a;town b;town c;town d;kind x;boat a 6;";

    /** Of each TOWN one SHEET in YEAR 0 and one in YEAR 6. */
    private static MayBoats pairs(String land, int... wages) {
        MayBoats x = Checks.of(land);
        for (int i = 0; i < wages.length; i += 2) {
            Checks.sheet(x, i / 2, 0, 0, 0, wages[i], -1);
            Checks.sheet(x, i / 2, 6, 0, 0, wages[i + 1], -1);
        }
        return x;
    }

    // ---- promises 26 and 27

    private static void noSuchBoat() {
        MayBoats x = pairs(TWO, 0, 1, 0, 0);
        for (int boat : new int[] {-1, 1, 3, FAR, FAR_BELOW}) {
            c.is("far", x, x.far(boat), -1, 2);
            c.is("chance", x, x.chance(boat), 2);
            c.is("weave", x, x.weave(boat, 0), -1, 2);
            c.is("cuts", x, x.cuts(boat, 0, 10000), -1, 2);
            c.is("deepest", x, x.deepest(boat, 0), -1, 2);
            c.is("right", x, x.right(boat), 2);
            c.is("left", x, x.left(boat, -1, -1, -1, true), 2);
            c.is("needs", x, x.needs(boat, 0), -1, 2);
            c.is("earlier", x, x.earlier(boat, 0), 2);
            c.is("earliers", x, x.earliers(boat), -1, 2);
            c.is("span", x, x.span(boat, 0, -1, 0, 3), -1, 2);
            c.is("odds", x, x.odds(boat, 0, -1, 0, -1), 2);
            c.is("written", x, x.written(boat), -1, 2);
        }
    }

    private static void noDiffer() {
        MayBoats x = pairs(TWO, 0, 1, 0, -1);
        c.is("far", x, x.far(0), -1, 8);
        c.is("chance", x, x.chance(0), 8);
        c.is("deepest", x, x.deepest(0, 1), -1, 8);
        c.is("cuts has an answer", x, x.cuts(0, 1, 9999), 0, 0);
        c.is("right", x, x.right(0), 8);
        c.is("left", x, x.left(0, 50, 0, 0, true), 8);
        c.is("joined", x, x.joined(), 8);
        c.is("needs", x, x.needs(0, 1), -1, 8);
        c.is("earlier", x, x.earlier(0, 1), 8);
        c.is("earliers", x, x.earliers(0), -1, 8);
        c.is("written has an answer", x, x.written(0), 0, 0);
    }

    private static void farAtLeastAsGreatInSize() {
        // b is PLAYED with 10, c with -10.
        MayBoats x = pairs(THREE, 0, 5, 0, 0, 20, 10);
        c.tells("the BOAT's own", x, x.differ(0), 10, 1);
        c.is("both just as great", x, x.far(0), 2, 0);
        c.tells("all of them", x, x.chance(0), 1, 1);
        x.say(1, false, 6);
        c.is("neither as great as 11", x, x.far(0), 0, 0);
        c.tells("1 of 3", x, x.chance(0), 1, 3);
        x.say(1, false, 4);
        c.is("both greater than 9", x, x.far(0), 2, 0);
    }

    private static void farOfNought() {
        MayBoats x = pairs(THREE, 7, 7, 5, 5, 3, 3);
        c.tells("the BOAT's own", x, x.differ(0), 0, 1);
        c.is("nought is as great as nought", x, x.far(0), 2, 0);
    }

    private static void farOfFractions() {
        // The BOAT's own is 1 and a half; b is PLAYED with 1, then with 2.
        MayBoats x = pairs(THREE, 0, 2, 0, 1, 0, 0);
        c.tells("the BOAT's own", x, x.differ(0), 3, 2);
        c.is("1 is less", x, x.far(0), 0, 0);
        x.say(3, false, 2);
        x.say(1, false, 3);
        c.tells("the BOAT's own", x, x.differ(0), 2, 1);
        c.is("2 is as great", x, x.far(0), 2, 0);
    }

    private static void noneIsPlayed() {
        MayBoats x = pairs(TWO, 0, 9, 0, 0);
        c.is("b has nothing BESIDE", x, x.far(0), 0, 0);
        c.tells("1 of 1", x, x.chance(0), 1, 1);
    }

    private static void aTownWithABoatIsNotPlayed() {
        MayBoats x = pairs("town a;town b;town c;kind x;boat a 6;boat b 6;", 0, 50, 0, 10, 0, 0);
        c.tells("just c is PLAYED, with b BESIDE", x, x.chance(0), 1, 2);
        c.is("c goes -10", x, x.far(0), 0, 0);
        x.say(1, false, 10);
        c.is("the BOAT's own is 5 now", x, x.far(0), 1, 0);
        c.tells("2 of 2", x, x.chance(0), 1, 1);
    }

    private static void aTownNotBesideIsNotPlayed() {
        MayBoats x = pairs(FOUR, 0, 50, 0, 0, 0, 0, 0, 0);
        c.tells("three", x, x.chance(0), 1, 4);
        x.beside(1 + 2 + 4);
        c.tells("two", x, x.chance(0), 1, 3);
        x.beside(2 + 4);
        c.tells("the BOAT's own is lost anyway", x, x.chance(0), 1, 3);
        x.beside(2);
        c.tells("one, which has nothing BESIDE", x, x.chance(0), 1, 1);
    }

    private static void thoseWithoutADifferArePassedOver() {
        MayBoats x = pairs(FOUR, 0, 50, 0, 0, 0, 0, 0, -1);
        c.tells("d has none AFTER", x, x.chance(0), 1, 3);
    }

    private static void theFirstTownIsPlayed() {
        // c is struck; a is PLAYED with 10, b with -10, the BOAT's own is 20 less 5.
        MayBoats x = pairs("town a;town b;town c;kind x;boat c 6;", 0, 10, 0, 0, 0, 20);
        c.tells("the BOAT's own", x, x.differ(2), 15, 1);
        c.tells("1 of 3", x, x.chance(0), 1, 3);
        x.say(5, false, 15);
        c.is("both as great as 10", x, x.far(0), 2, 0);
    }

    // ---- promises 28 to 30

    private static void aBoatToTheLastTown() {
        MayBoats x = pairs("town a;town b;town c;kind x;boat a 1;boat c 6;", 10, 20, 30, 1, 20, 0);
        x.years(0, 0, 6, 6);
        c.is("half of a, half of b", x, x.weave(1, 2), 0, 0);
        c.is("WEIGHT of a", x, x.woven(0), 1, 0);
        c.is("WEIGHT of b", x, x.woven(1), 1, 0);
        c.is("WEIGHT of c", x, x.woven(2), 0, 0);
        c.tells("its own PRICE is 0 there", x, x.gap(6), -21, 2);
        x.say(1, false, -1);
        c.is("a has a WEIGHT and no PRICE", x, x.gap(6), 8);
        c.tells("nought", x, x.gap(0), 0, 1);
    }

    private static void overAllYearsOfBeforeAlone() {
        MayBoats x = Checks.plain(TWO, Checks.row(0, 0, 1), Checks.row(0, 1, 9), Checks.row(1, 0, 0), Checks.row(1, 1, 0));
        x.years(0, 1, 6, 6);
        c.is("both YEARS", x, x.weave(0, 1), 60 * 60 + 540 * 540, 0);
        x.years(0, 0, 6, 6);
        c.is("the first one", x, x.weave(0, 1), 60 * 60, 0);
        x.years(1, 1, 6, 6);
        c.is("the last one", x, x.weave(0, 1), 540 * 540, 0);
    }

    private static void fewerTownsThanAtTheLastWeave() {
        MayBoats x = pairs(FOUR, 10, 0, 0, 0, 10, 0, 30, 0);
        x.years(0, 0, 6, 6);
        c.is("all", x, x.weave(0, 3), 0, 0);
        int[] all = {0, 2, 0, 1};
        for (int t = 0; t < 4; t++) {
            c.is("WEIGHT of " + t, x, x.woven(t), all[t], 0);
        }
        x.beside(2 + 4);
        c.is("b and c", x, x.weave(0, 3), 0, 0);
        c.is("WEIGHT of c", x, x.woven(2), 3, 0);
        c.is("WEIGHT of d", x, x.woven(3), 0, 0);
        x.beside(8);
        c.is("d alone", x, x.weave(0, 3), 3600L * 3600, 0);
        c.is("WEIGHT of d", x, x.woven(3), 3, 0);
        c.is("WEIGHT of c", x, x.woven(2), 0, 0);
        x.beside(2);
        c.is("b alone", x, x.weave(0, 1), 600 * 600, 0);
    }

    private static void wovenBy1To8() {
        MayBoats x = pairs(TWO, 10, 0, 5, 0);
        x.years(0, 0, 6, 6);
        for (int n : new int[] {0, 9, -1, FAR, FAR_BELOW}) {
            c.is("weave by " + n, x, x.weave(0, n), -1, 5);
        }
        c.is("none yet", x, x.woven(0), -1, 8);
        for (int n = 1; n <= 8; n++) {
            c.is("weave by " + n, x, x.weave(0, n), 300L * 300 * n * n, 0);
            c.is("all of it", x, x.woven(1), n, 0);
            c.is("the own TOWN's", x, x.woven(0), 0, 0);
        }
    }

    private static void ofSeveralTheLeastTowns() {
        MayBoats x = pairs(FOUR, 10, 0, 10, 0, 10, 0, 10, 0);
        x.years(0, 0, 6, 6);
        c.is("all alike", x, x.weave(0, 8), 0, 0);
        int[] all = {0, 8, 0, 0};
        for (int t = 0; t < 4; t++) {
            c.is("WEIGHT of " + t, x, x.woven(t), all[t], 0);
        }
        x.say(2, false, 0);
        x.say(4, false, 20);
        x.say(6, false, 20);
        c.is("half of b, half of c or d", x, x.weave(0, 8), 0, 0);
        int[] half = {0, 4, 4, 0};
        for (int t = 0; t < 4; t++) {
            c.is("WEIGHT of " + t, x, x.woven(t), half[t], 0);
        }
    }

    private static void aSumAbove32Bits() {
        MayBoats x = Checks.of(TWO);
        for (int year = 0; year < 12; year++) {
            Checks.sheet(x, 0, year, 0, 0, 999, -1);
            Checks.sheet(x, 1, year, 0, 0, 0, -1);
        }
        x.years(0, 11, 0, 0);
        c.is("the greatest there is", x, x.weave(0, 8), 12L * 479520 * 479520, 0);
        c.tells("GAP in the first YEAR", x, x.gap(0), 999, 1);
        c.tells("GAP in the last YEAR", x, x.gap(11), 999, 1);
    }

    private static void noTownToWeave() {
        MayBoats x = pairs(TWO, 1, 1, 1, 1);
        x.years(0, 0, 6, 6);
        x.beside(1);
        c.is("just the own TOWN", x, x.weave(0, 1), -1, 8);
        x.beside(0);
        c.is("none", x, x.weave(0, 1), -1, 8);
        x.beside(2);
        c.is("one", x, x.weave(0, 1), 0, 0);
    }

    private static void aPriceIsNone() {
        MayBoats x = Checks.plain(THREE, Checks.row(0, 0, 5), Checks.row(0, 1, 5), Checks.row(1, 0, 5), Checks.row(1, 1, 5),
                Checks.row(2, 0, 900));
        x.years(0, 1, 6, 6);
        c.is("c in YEAR 1", x, x.weave(0, 1), -1, 8);
        x.beside(1 + 2);
        c.is("c is not BESIDE", x, x.weave(0, 1), 0, 0);
        x.beside(7);
        x.years(0, 0, 6, 6);
        c.is("YEAR 1 is not of BEFORE", x, x.weave(0, 1), 0, 0);
        x.years(0, 2, 6, 6);
        c.is("the own TOWN in YEAR 2", x, x.weave(0, 1), -1, 8);
        x.years(0, 0, 0, 0);
        c.is("a YEAR of BEFORE and AFTER is nothing to it", x, x.weave(0, 1), 0, 0);
        c.tells("c has no WEIGHT, so its PRICE is nothing to a GAP", x, x.gap(1), 0, 1);
        c.is("the own PRICE is none", x, x.gap(2), 8);
        x.say(3, false, -1);
        c.is("b has a WEIGHT and no PRICE", x, x.gap(1), 8);
        c.tells("but in YEAR 0", x, x.gap(0), 0, 1);
    }

    private static void aPriceIsRoundedDown() {
        // 60 times 1 by 7 is 8 and a bit, 60 times 1 by 60 is 1.
        MayBoats x = Checks.of(TWO);
        for (int i = 0; i < 7; i++) {
            Checks.sheet(x, 0, 0, 0, 0, i == 0 ? 1 : 0, -1);
        }
        Checks.sheet(x, 1, 0, 0, 0, 1, -1);
        x.years(0, 0, 6, 6);
        c.is("8 less 60", x, x.weave(0, 1), 52 * 52, 0);
        c.tells("GAP", x, x.gap(0), -13, 15);
        c.is("by 8", x, x.weave(0, 8), 64 * 52 * 52, 0);
        c.tells("GAP by 8", x, x.gap(0), -13, 15);
    }

    private static void aRefusedWeaveLeavesTheLatest() {
        MayBoats x = pairs(THREE, 1, 1, 1, 1, 2, 2);
        x.years(0, 0, 6, 6);
        x.weave(0, 3);
        x.weave(0, 9);
        x.weave(1, 1);
        x.beside(0);
        x.weave(0, 1);
        c.is("WEIGHT of b", x, x.woven(1), 3, 0);
        c.is("WEIGHT of c", x, x.woven(2), 0, 0);
        c.tells("GAP by 3", x, x.gap(6), 0, 1);
    }

    private static void wovenOfTheTownsThen() {
        MayBoats x = pairs(THREE, 1, 1, 1, 1, 2, 2);
        x.years(0, 0, 6, 6);
        x.weave(0, 3);
        for (int town : new int[] {-1, 3, FAR, FAR_BELOW}) {
            c.is("woven " + town, x, x.woven(town), -1, 2);
        }
        Checks.land(x, "town a;");
        c.is("there were three then", x, x.woven(2), 0, 0);
        c.is("there were three then", x, x.woven(1), 3, 0);
        c.is("fewer TOWNS", x, x.gap(0), 9);
        Checks.land(x, FOUR);
        c.is("there were three then", x, x.woven(3), -1, 2);
        c.is("more TOWNS", x, x.gap(0), 9);
        Checks.land(x, THREE);
        c.is("as many, but no SHEETS", x, x.gap(0), 8);
        Checks.sheet(x, 0, 4, 0, 0, 7, -1);
        Checks.sheet(x, 1, 4, 0, 0, 3, -1);
        c.tells("as many", x, x.gap(4), 4, 1);
    }

    private static void gapAsksInItsOrder() {
        MayBoats x = pairs(TWO, 1, 1, 1, 1);
        for (int year : new int[] {-1, 12, FAR, FAR_BELOW}) {
            c.is("5 ahead of no weave()", x, x.gap(year), 5);
        }
        c.is("no weave() yet", x, x.gap(0), 8);
        x.years(0, 0, 6, 6);
        x.weave(0, 1);
        Checks.land(x, "town a;");
        c.is("5 ahead of 9", x, x.gap(12), 5);
        c.is("9 ahead of none", x, x.gap(11), 9);
    }

    // ---- promises 31 and 32

    private static MayBoats sixKinds() {
        MayBoats x = Checks.of("town a;town b;kind g;kind h;kind i;kind j;kind k;kind m;boat a 6;");
        for (int kind = 0; kind < 6; kind++) {
            Checks.sheet(x, 0, 0, kind, 0, 1, -1);
            Checks.sheet(x, 0, 6, kind, 0, 0, -1);
            Checks.sheet(x, 1, 0, kind, 0, 1, -1);
            Checks.sheet(x, 1, 6, kind, 0, 1, -1);
        }
        return x;
    }

    private static void allSetsButTheEmptyOne() {
        MayBoats x = sixKinds();
        c.is("all 63", x, x.cuts(0, 1, 0), 63, 0);
        c.is("each of two SHEETS", x, x.cuts(0, 2, 0), 57, 0);
        c.is("each of six", x, x.cuts(0, 6, 0), 1, 0);
        c.is("each of seven", x, x.cuts(0, 7, 0), 0, 0);
        c.is("the least set of all", x, x.deepest(0, 1), 1, 0);
        c.is("of two", x, x.deepest(0, 2), 3, 0);
        c.is("all KINDS", x, x.deepest(0, 6), 63, 0);
        c.is("of seven", x, x.deepest(0, 7), -1, 8);
        x.cut(0, 15);
        c.is("in place of the CUT", x, x.cuts(0, 1, 0), 63, 0);
        c.is("in place of the CUT", x, x.deepest(0, 6), 63, 0);
        x.cut(63, 14);
        c.is("not in place of STREETS", x, x.cuts(0, 1, 0), 0, 0);
    }

    private static void lessThanANumber() {
        MayBoats x = sixKinds();
        c.is("-1 is not less than -1", x, x.cuts(0, 1, -1), 0, 0);
        c.is("-1 is less than 0", x, x.cuts(0, 1, 0), 63, 0);
        MayBoats y = Checks.three();
        y.cut(1, 15);
        c.is("-37 and a half is less than -37", y, y.cuts(0, 1, -37), 1, 0);
        c.is("it is not less than -38", y, y.cuts(0, 1, -38), 0, 0);
        c.is("nor is -35 less than -35", y, y.cuts(0, 1, -35), 1, 0);
        c.is("but than -34", y, y.cuts(0, 1, -34), 2, 0);
    }

    private static void soManySheetsAndANumber() {
        MayBoats x = sixKinds();
        for (int sheets : new int[] {0, 61, -1, FAR, FAR_BELOW}) {
            c.is("cuts " + sheets, x, x.cuts(0, sheets, 0), -1, 5);
            c.is("deepest " + sheets, x, x.deepest(0, sheets), -1, 5);
        }
        for (int below : new int[] {-10000, 10000, FAR, FAR_BELOW}) {
            c.is("below " + below, x, x.cuts(0, 1, below), -1, 5);
        }
        c.is("the least number", x, x.cuts(0, 1, -9999), 0, 0);
        c.is("the greatest number", x, x.cuts(0, 1, 9999), 63, 0);
        c.is("sixty", x, x.cuts(0, 60, 9999), 0, 0);
        c.is("sixty", x, x.deepest(0, 60), -1, 8);
    }

    private static void oneOfTheFourHasTooFew() {
        for (int lost = 0; lost < 4; lost++) {
            MayBoats x = sixKinds();
            x.say(lost, false, -1);
            c.is("five there, six else", x, x.cuts(0, 6, 0), 0, 0);
            c.is("five", x, x.deepest(0, 6), -1, 8);
            c.is("five are enough", x, x.deepest(0, 5), 62, 0);
        }
    }

    private static void deepestTellsItsDiffer() {
        MayBoats x = sixKinds();
        x.say(21, false, 0);
        x.say(20, false, 999);
        c.is("the last KIND", x, x.deepest(0, 1), 32, 0);
        c.fraction("its DIFFER", x, -999, 1);
        c.is("none", x, x.deepest(0, 7), -1, 8);
        c.fraction("as it was", x, -999, 1);
    }

    private static void deepestOfFractions() {
        // KIND g goes 1 by 2, KIND h goes 1 by 3; both together 2 by 5.
        MayBoats x = Checks.of("town a;town b;kind g;kind h;boat a 6;", Checks.row(0, 0, 0, 0, 0, -1),
                Checks.row(0, 6, 0, 0, 0, -1), Checks.row(0, 6, 0, 0, 1, -1), Checks.row(0, 0, 1, 0, 0, -1),
                Checks.row(0, 6, 1, 0, 0, -1), Checks.row(0, 6, 1, 0, 0, -1), Checks.row(0, 6, 1, 0, 1, -1));
        for (int kind = 0; kind < 2; kind++) {
            Checks.sheet(x, 1, 0, kind, 0, 5, -1);
            Checks.sheet(x, 1, 6, kind, 0, 5, -1);
        }
        c.is("h", x, x.deepest(0, 1), 2, 0);
        c.fraction("h", x, 1, 3);
        c.is("all are below 1", x, x.cuts(0, 1, 1), 3, 0);
        c.is("none is below 0", x, x.cuts(0, 1, 0), 0, 0);
        for (int i = 0; i < 7; i++) {
            x.say(i, false, 1 - x.look(i, 4));
        }
        c.is("below 0 it is g", x, x.deepest(0, 1), 1, 0);
        c.fraction("g", x, -1, 2);
    }

    // ---- promise 33

    private static void aStreetHasNoneAfter() {
        MayBoats x = Checks.of(TWO, Checks.row(0, 0, 0, 0, 10, -1), Checks.row(0, 0, 0, 3, 30, -1),
                Checks.row(0, 6, 0, 0, 11, -1), Checks.row(0, 6, 0, 3, 33, -1), Checks.row(1, 0, 0, 1, 5, -1),
                Checks.row(1, 6, 0, 1, 5, -1), Checks.row(1, 6, 0, 2, 900, -1));
        c.tells("a STREET not BEFORE is nothing to it", x, x.right(0), 2, 1);
        x.say(3, false, -1);
        c.is("the own TOWN's", x, x.right(0), 8);
        x.cut(1, 7);
        c.tells("that STREET is not of STREETS", x, x.right(0), 1, 1);
        x.cut(1, 15);
        x.say(1, false, -1);
        c.tells("nor does it COUNT BEFORE", x, x.right(0), 1, 1);
        x.say(5, false, -1);
        c.is("that of those BESIDE", x, x.right(0), 8);
        c.is("though there is a DIFFER", x, x.differ(0), 0);
    }

    private static void nothingBefore() {
        MayBoats x = pairs(TWO, 1, 2, 3, 4);
        x.years(1, 5, 6, 11);
        c.is("right", x, x.right(0), 8);
        x.years(0, 5, 6, 11);
        x.beside(1);
        c.is("none BESIDE", x, x.right(0), 8);
        x.beside(3);
        c.tells("else", x, x.right(0), 0, 1);
    }

    private static void asOftenAsTheyCountBefore() {
        // BEFORE: STREET 0 twice, STREET 1 once; AFTER: MEANS 20 and 50: (20 + 20 + 50) by 3 is 30, less 10.
        MayBoats x = Checks.of(TWO, Checks.row(0, 0, 0, 0, 10, -1), Checks.row(0, 1, 0, 0, 10, -1),
                Checks.row(0, 2, 0, 1, 10, -1), Checks.row(0, 6, 0, 0, 20, -1), Checks.row(0, 6, 0, 1, 40, -1),
                Checks.row(0, 7, 0, 1, 60, -1), Checks.row(1, 0, 0, 3, 1, -1), Checks.row(1, 6, 0, 3, 1, -1));
        c.tells("right", x, x.right(0), 20, 1);
        c.tells("differ", x, x.differ(0), 30, 1);
    }

    // ---- promise 34

    private static void thoseWhoLeft() {
        MayBoats x = pairs(TWO, 10, 20, 5, 5);
        c.tells("none of them", x, x.left(0, 0, 0, 0, false), 10, 1);
        c.tells("fifty at 0", x, x.left(0, 50, 0, 999, false), -490, 51);
        c.tells("fifty at 999", x, x.left(0, 50, 0, 999, true), 49460, 51);
        c.tells("the least is the greatest", x, x.left(0, 1, 999, 999, false), 999, 2);
        for (int many : new int[] {-1, 51, FAR, FAR_BELOW}) {
            c.is("so many " + many, x, x.left(0, many, 0, 0, true), 5);
        }
        int[][] wrong = {{-1, 0}, {0, 1000}, {1, 0}, {999, 998}, {1000, 1000}, {-1, -1}, {FAR_BELOW, 0}, {0, FAR}};
        for (int[] w : wrong) {
            c.is("can't be", x, x.left(0, 1, w[0], w[1], true), 5);
            c.is("can't be", x, x.left(0, 0, w[0], w[1], false), 5);
        }
        x.years(0, 6, 6, 11);
        c.is("a YEAR of both", x, x.left(0, 1, 0, 0, true), 8);
        x.years(1, 5, 6, 11);
        c.is("none BEFORE", x, x.left(0, 1, 0, 0, true), 8);
        x.years(0, 5, 6, 11);
        x.say(3, false, -1);
        c.is("none AFTER BESIDE", x, x.left(0, 1, 0, 0, true), 8);
    }

    // ---- promises 35 and 36

    private static void joinedOfNone() {
        MayBoats x = new MayBoats();
        c.is("no LAND", x, x.joined(), 8);
        MayBoats y = pairs("town a;town b;kind x;", 1, 2, 3, 4);
        c.is("no BOAT", y, y.joined(), 8);
        MayBoats z = pairs(TWO, 1, 2, 3, 5);
        c.tells("one", z, z.joined(), -1, 1);
        z.years(0, 6, 6, 11);
        c.is("it has none", z, z.joined(), 8);
    }

    private static void besideLosesJustTheOwnTown() {
        // a goes 0, b goes 3, c goes 9: BESIDE a are b and c, BESIDE b are a and c.
        MayBoats x = pairs("town a;town b;town c;kind x;boat a 6;boat b 6;", 0, 0, 0, 3, 0, 9);
        c.tells("-6 and -1 and a half", x, x.joined(), -15, 4);
    }

    private static void needsTheLeast() {
        MayBoats x = Checks.of(TWO);
        for (int i = 0; i < 8; i++) {
            Checks.sheet(x, i / 4, i / 2 % 2 * 6, 0, 0, i % 2 * 999, -1);
        }
        // The SPREAD is 998,001, the square of 999.
        c.is("by 1", x, x.needs(0, 1), 4 * 998001, 0);
        c.is("just at most", x, x.needs(0, 999), 4, 0);
        c.is("just above", x, x.needs(0, 998), 5, 0);
        for (int no : new int[] {0, 1000, -1, FAR, FAR_BELOW}) {
            c.is("x " + no, x, x.needs(0, no), -1, 5);
        }
        MayBoats y = pairs(TWO, 1, 2, 3, 4);
        c.is("no SPREAD at all", y, y.needs(0, 1), 1, 0);
        c.is("no SPREAD at all", y, y.needs(0, 999), 1, 0);
        y.years(0, 6, 6, 11);
        c.is("5 ahead of 8", y, y.needs(0, 0), -1, 5);
        c.is("no DIFFER", y, y.needs(0, 1), -1, 8);
    }

    // ---- promises 37 and 38

    private static void aboveTheFirstUpToTheLast() {
        MayBoats x = Checks.of(TWO);
        for (int year = 2; year <= 8; year++) {
            Checks.sheet(x, 0, year, 0, 0, year, -1);
            Checks.sheet(x, 1, year, 0, 0, 5, -1);
        }
        x.years(2, 4, 8, 8);
        for (int year : new int[] {-1, 0, 2, 5, 8, 12, FAR, FAR_BELOW}) {
            c.is("earlier " + year, x, x.earlier(0, year), 5);
        }
        c.tells("just above the first", x, x.earlier(0, 3), 3, 2);
        c.tells("the last", x, x.earlier(0, 4), 3, 2);
        x.years(2, 2, 8, 8);
        c.is("one YEAR", x, x.earlier(0, 2), 5);
        c.is("no such YEAR", x, x.earliers(0), 0, 0);
        x.years(2, 3, 8, 8);
        c.tells("two YEARS", x, x.earlier(0, 3), 1, 1);
        x.years(0, 11, 0, 0);
        c.is("there is none so", x, x.earlier(0, 1), 8);
        c.is("there is none so", x, x.earlier(0, 11), 8);
        c.tells("YEARS of both are nothing to it", x, x.earlier(0, 8), 7, 2);
        c.is("but to the DIFFER", x, x.earliers(0), -1, 8);
    }

    private static void earliersAtLeastAsGreat() {
        MayBoats x = Checks.plain(TWO, Checks.row(0, 0, 10), Checks.row(0, 1, 20), Checks.row(0, 6, 25),
                Checks.row(1, 0, 5), Checks.row(1, 1, 5), Checks.row(1, 6, 5));
        c.tells("the DIFFER", x, x.differ(0), 10, 1);
        c.tells("EARLIER", x, x.earlier(0, 1), 10, 1);
        c.is("just as great", x, x.earliers(0), 1, 0);
        x.say(2, false, 26);
        c.is("not as great", x, x.earliers(0), 0, 0);
        x.say(2, false, 5);
        c.tells("below 0", x, x.differ(0), -10, 1);
        c.is("in size", x, x.earliers(0), 1, 0);
        x.say(2, false, 15);
        c.tells("nought", x, x.differ(0), 0, 1);
        c.is("one of five; the other YEARS have none", x, x.earliers(0), 1, 0);
    }

    // ---- promises 39 and 40

    private static void trendOfFewerThanTwoYears() {
        MayBoats x = Checks.plain(THREE, Checks.row(0, 0, 10), Checks.row(0, 0, 30), Checks.row(0, 6, 90),
                Checks.row(1, 5, 50));
        c.is("one YEAR, two SHEETS", x, x.trend(1), 8);
        c.is("no YEAR", x, x.trend(4), 8);
        c.is("no TOWN", x, x.trend(0), 8);
        c.tells("two YEARS together", x, x.trend(3), 6, 1);
        x.years(0, 6, 7, 7);
        c.tells("the last YEAR of BEFORE", x, x.trend(1), 35, 3);
        x.years(1, 6, 7, 7);
        c.is("without the first", x, x.trend(1), 8);
        x.years(0, 11, 0, 11);
        c.tells("YEARS of both", x, x.trend(1), 35, 3);
        x.rents(true);
        c.is("no RENTS", x, x.trend(1), 8);
    }

    private static void splitOfNone() {
        MayBoats x = Checks.plain(THREE, Checks.row(0, 0, 10), Checks.row(0, 1, 20), Checks.row(1, 0, 10),
                Checks.row(2, 1, 11));
        c.tells("10 less 1", x, x.split(0), 9, 1);
        c.is("b has one YEAR alone", x, x.split(1), 8);
        x.beside(2);
        c.is("BESIDE has one YEAR alone", x, x.split(0), 8);
        x.beside(1);
        c.is("BESIDE but itself is none", x, x.split(0), 8);
        x.beside(6);
        c.tells("itself need not be BESIDE", x, x.split(0), 9, 1);
    }

    private static void trendOfTwelveYears() {
        MayBoats x = Checks.of(TWO);
        for (int year = 0; year < 12; year++) {
            Checks.sheet(x, 0, year, 0, 0, year == 11 ? 999 : 0, -1);
        }
        x.years(0, 11, 0, 0);
        // 12 times 11 times 999 less 66 times 999, by 12 times 506 less 66 squared: 65,934 by 1,716.
        c.tells("trend", x, x.trend(1), 999, 26);
    }

    // ---- promises 41 and 42

    private static void partsOfNone() {
        MayBoats x = Checks.of("town a;kind x;kind y;", Checks.row(0, 0, 0, 0, 10, -1), Checks.row(0, 0, 1, 0, 20, -1),
                Checks.row(0, 6, 0, 0, 30, -1), Checks.row(0, 6, 1, 0, 40, -1));
        c.tells("mix", x, x.mix(0), 0, 1);
        c.tells("pure", x, x.pure(0), 20, 1);
        x.say(3, false, -1);
        c.tells("y is none AFTER: 10 less 15", x, x.mix(0), -5, 1);
        c.tells("y counts only in the first", x, x.pure(0), 20, 1);
        x.say(3, false, 40);
        x.say(1, false, -1);
        c.is("y COUNTS AFTER and not BEFORE", x, x.mix(0), 8);
        c.is("y COUNTS AFTER and not BEFORE", x, x.pure(0), 8);
        x.cut(1, 15);
        c.tells("but y is not of the CUT", x, x.mix(0), 0, 1);
        c.tells("but y is not of the CUT", x, x.pure(0), 20, 1);
        x.cut(3, 15);
        x.years(1, 5, 6, 11);
        c.is("nothing BEFORE", x, x.mix(0), 8);
        c.is("nothing BEFORE", x, x.pure(0), 8);
        x.years(0, 5, 7, 11);
        c.is("nothing AFTER", x, x.mix(0), 8);
        c.is("nothing AFTER", x, x.pure(0), 8);
        x.years(1, 5, 7, 11);
        c.is("nothing at all", x, x.mix(0), 8);
        c.is("nothing at all", x, x.pure(0), 8);
    }

    private static void partsOfATownAlone() {
        MayBoats x = pairs(TWO, 10, 40, 1, 1);
        x.beside(0);
        c.tells("BESIDE is nothing to it", x, x.mix(0), 0, 1);
        c.tells("BESIDE is nothing to it", x, x.pure(0), 30, 1);
    }

    public static void main(String[] args) {
        Checks.callAll(DifferEdgesTest.class);
        c.end("DifferEdgesTest");
    }
}
