/** Promises 26 to 42: what is made of DIFFERS, WEIGHTS, CUTS, TRENDS, parts. */
public final class DifferTest {
    private static final Checks c = new Checks();
    private static final String TWO = "town a; town b; kind x; kind y; boat a 6;";

    /** Of each TOWN one SHEET BEFORE and one AFTER. */
    private static MayBoats pairs(String land, int... wages) {
        MayBoats x = Checks.of(land);
        for (int i = 0; i < wages.length; i += 2) {
            Checks.sheet(x, i / 2, 0, 0, 0, wages[i], -1);
            Checks.sheet(x, i / 2, 6, 0, 0, wages[i + 1], -1);
        }
        return x;
    }

    private static final String FOUR = "town a; town b; town c; town d; kind x; boat a 6; boat d 3;";

    private static void farAndChance() {
        MayBoats x = pairs(FOUR, 100, 90, 50, 70, 50, 45, 10, 110);
        c.tells("26 the BOAT's own", x, x.differ(0), -145, 3);
        c.is("26 far", x, x.far(0), 1, 0);
        c.tells("27 chance", x, x.chance(0), 2, 3);
        c.is("26 far of another BOAT", x, x.far(1), 0, 0);
        c.tells("27 chance", x, x.chance(1), 1, 3);
        x.beside(15 - 4);
        c.tells("27 c is not PLAYED", x, x.chance(1), 1, 2);
        c.is("26 no BOAT", x, x.far(2), -1, 2);
        c.is("27 no BOAT", x, x.chance(-1), 2);
        x.say(0, false, -1);
        c.is("26 no DIFFER", x, x.far(0), -1, 8);
        c.is("27 no DIFFER", x, x.chance(0), 8);
        MayBoats y = pairs("town a; town b; town c; town d; kind x; boat a 6;", 20, 15, 10, 20, 10, 10);
        c.tells("26 the BOAT's own", y, y.differ(0), -10, 1);
        c.is("26 at least as great in size", y, y.far(0), 2, 0);
        c.tells("27 d has no DIFFER", y, y.chance(0), 1, 1);
        y.say(3, false, 19);
        c.tells("26 the BOAT's own", y, y.differ(0), -19, 2);
        c.is("26 not as great", y, y.far(0), 0, 0);
        MayBoats z = pairs("town a; town b; kind x; boat a 6;", 20, 15, 10, 20);
        c.tells("27 none is PLAYED", z, z.chance(0), 1, 1);
    }

    private static MayBoats woven() {
        MayBoats x = Checks.of("town a; town b; town c; kind x; boat a 6; boat b 6;");
        int[][] prices = {{10, 20}, {20, 30}, {0, 10}};
        for (int t = 0; t < 3; t++) {
            Checks.sheet(x, t, 0, 0, 0, prices[t][0], -1);
            Checks.sheet(x, t, 1, 0, 0, prices[t][1], -1);
        }
        Checks.sheet(x, 0, 6, 0, 0, 7, -1);
        Checks.sheet(x, 1, 6, 0, 0, 5, -1);
        x.years(0, 1, 6, 11);
        return x;
    }

    private static void weights(MayBoats x, int a, int b, int d) {
        c.is("29 WEIGHT of a", x, x.woven(0), a, 0);
        c.is("29 WEIGHT of b", x, x.woven(1), b, 0);
        c.is("29 WEIGHT of c", x, x.woven(2), d, 0);
    }

    private static void weave() {
        MayBoats x = woven();
        c.is("29 none yet", x, x.woven(0), -1, 8);
        c.is("30 none yet", x, x.gap(0), 8);
        c.is("30 no YEAR ahead of that", x, x.gap(12), 5);
        c.is("28 of several the least TOWN's", x, x.weave(0, 1), 720000, 0);
        weights(x, 0, 1, 0);
        c.tells("30 gap", x, x.gap(0), -10, 1);
        c.tells("30 gap AFTER", x, x.gap(6), 2, 1);
        c.is("28 by 2", x, x.weave(0, 2), 0, 0);
        weights(x, 0, 1, 1);
        c.tells("30 gap", x, x.gap(1), 0, 1);
        c.is("30 c has no PRICE", x, x.gap(6), 8);
        c.is("28 by 3", x, x.weave(0, 3), 720000, 0);
        weights(x, 0, 2, 1);
        c.tells("30 gap by 3", x, x.gap(0), -10, 3);
        c.is("28 by 8", x, x.weave(0, 8), 0, 0);
        weights(x, 0, 4, 4);
        c.is("28 of another BOAT", x, x.weave(1, 1), 2 * 600 * 600, 0);
        weights(x, 1, 0, 0);
        c.is("28 no BOAT", x, x.weave(2, 9), -1, 2);
        c.is("28 n", x, x.weave(0, 0), -1, 5);
        c.is("28 n", x, x.weave(0, 9), -1, 5);
        x.beside(1);
        c.is("28 no such TOWN", x, x.weave(0, 1), -1, 8);
        x.beside(4 + 1);
        x.weave(0, 1);
        weights(x, 0, 0, 1);
        x.beside(7);
        x.years(0, 2, 6, 11);
        c.is("28 a YEAR without PRICES", x, x.weave(0, 1), -1, 8);
        weights(x, 0, 0, 1);
        c.is("29 no TOWN", x, x.woven(3), -1, 2);
        c.is("29 no TOWN", x, x.woven(-1), -1, 2);
        Checks.land(x, "town a; town b;");
        c.is("30 fewer TOWNS", x, x.gap(0), 9);
        c.is("30 5 ahead of 9", x, x.gap(-1), 5);
        weights(x, 0, 0, 1);
        Checks.land(x, "town d; town e; town f;");
        c.is("30 as many TOWNS, no SHEETS", x, x.gap(0), 8);
    }

    /** a goes as d goes; then half as b, half as d. */
    private static void weaveFour() {
        MayBoats x = Checks.of("town a; town b; town c; town d; kind x; boat a 6;");
        int[] wages = {30, 10, 500, 30};
        for (int t = 0; t < 4; t++) {
            Checks.sheet(x, t, 0, 0, 0, wages[t], -1);
        }
        x.years(0, 0, 6, 11);
        c.is("28 one of three", x, x.weave(0, 3), 0, 0);
        weights(x, 0, 0, 0);
        c.is("29 WEIGHT of d", x, x.woven(3), 3, 0);
        x.say(0, false, 20);
        c.is("28 two of three", x, x.weave(0, 6), 0, 0);
        weights(x, 0, 3, 0);
        c.is("29 WEIGHT of d", x, x.woven(3), 3, 0);
    }

    private static void prices() {
        MayBoats x = Checks.of("town a; town b; kind x; boat a 6;");
        for (int i = 0; i < 7; i++) {
            Checks.sheet(x, 0, 0, 0, 0, i == 0 ? 1 : 0, -1);
        }
        Checks.sheet(x, 1, 0, 0, 0, 0, -1);
        x.years(0, 0, 1, 1);
        c.is("28 60 by 7, rounded down", x, x.weave(0, 1), 64, 0);
        c.tells("30 gap", x, x.gap(0), 2, 15);
        x.rents(true);
        c.is("30 the SIGHT as it is", x, x.gap(0), 8);
    }

    /** TOWN a: KIND x from 100 to 90, KIND y from 50 to 20; b stays. */
    private static MayBoats kinds() {
        MayBoats x = Checks.of(TWO);
        int[][] wages = {{100, 90, 50, 20}, {100, 100, 50, 50}};
        for (int t = 0; t < 2; t++) {
            for (int k = 0; k < 2; k++) {
                Checks.sheet(x, t, 0, k, 0, wages[t][2 * k], -1);
                Checks.sheet(x, t, 6, k, 0, wages[t][2 * k + 1], -1);
            }
        }
        return x;
    }

    private static void cuts() {
        MayBoats x = kinds();
        x.cut(0, 15);
        c.is("31 less than", x, x.cuts(0, 1, -9), 3, 0);
        c.is("31 not as much", x, x.cuts(0, 1, -10), 2, 0);
        c.is("31 less than", x, x.cuts(0, 1, -20), 1, 0);
        c.is("31 not as much", x, x.cuts(0, 1, -30), 0, 0);
        c.is("31 each of two SHEETS", x, x.cuts(0, 2, 9999), 1, 0);
        c.is("31 each of three", x, x.cuts(0, 3, 9999), 0, 0);
        c.is("31 the least number", x, x.cuts(0, 60, -9999), 0, 0);
        c.is("31 no BOAT ahead", x, x.cuts(1, 0, 0), -1, 2);
        c.is("31 SHEETS", x, x.cuts(0, 0, 0), -1, 5);
        c.is("31 SHEETS", x, x.cuts(0, 61, 0), -1, 5);
        c.is("31 number", x, x.cuts(0, 1, 10000), -1, 5);
        c.is("31 number", x, x.cuts(0, 1, -10000), -1, 5);
        c.is("32 deepest", x, x.deepest(0, 1), 2, 0);
        c.fraction("32 deepest", x, -30, 1);
        c.is("32 of two SHEETS", x, x.deepest(0, 2), 3, 0);
        c.fraction("32 deepest", x, -20, 1);
        c.is("32 none of three", x, x.deepest(0, 3), -1, 8);
        c.fraction("32 as it was", x, -20, 1);
        c.is("32 no BOAT", x, x.deepest(-1, 1), -1, 2);
        c.is("32 SHEETS", x, x.deepest(0, 0), -1, 5);
        c.is("32 SHEETS", x, x.deepest(0, 61), -1, 5);
        x.say(3, false, 40);
        c.is("32 of several the least set", x, x.deepest(0, 1), 1, 0);
        c.fraction("32 deepest", x, -10, 1);
        c.is("31 the CUT is as it was", x, x.sight(1), 0, 0);
        x.cut(3, 2);
        c.is("31 no STREET", x, x.cuts(0, 1, 9999), 0, 0);
        c.is("32 no STREET", x, x.deepest(0, 1), -1, 8);
        x.cut(3, 15);
        x.years(0, 6, 6, 11);
        c.is("31 a YEAR of both", x, x.cuts(0, 1, 9999), 0, 0);
    }

    private static void right() {
        MayBoats x = Checks.of(TWO);
        int[][] rows = {{0, 0, 0, 100}, {0, 0, 0, 100}, {0, 0, 1, 40}, {0, 6, 0, 90}, {0, 6, 1, 50}, {0, 6, 1, 60},
            {1, 0, 0, 10}, {1, 6, 0, 20}, {1, 6, 3, 500}};
        for (int[] r : rows) {
            Checks.sheet(x, r[0], r[1], 0, r[2], r[3], 5);
        }
        c.tells("33 right", x, x.right(0), -35, 3);
        x.cut(3, 1);
        c.tells("33 STREETS", x, x.right(0), -20, 1);
        x.cut(3, 15);
        c.is("33 no BOAT", x, x.right(1), 2);
        x.years(0, 6, 6, 11);
        c.is("33 a YEAR of both", x, x.right(0), 8);
        x.years(0, 5, 6, 11);
        x.say(4, false, -1);
        c.tells("33 one of two is left", x, x.right(0), -10, 1);
        x.say(5, false, -1);
        c.is("33 a STREET has none AFTER", x, x.right(0), 8);
        c.is("33 but there is a DIFFER", x, x.differ(0), 0);
        x.say(5, false, 60);
        x.say(7, false, -1);
        c.is("33 nor BESIDE", x, x.right(0), 8);
        x.say(6, false, -1);
        c.is("33 none BEFORE", x, x.right(0), 8);
    }

    private static void left() {
        MayBoats x = Checks.three();
        c.tells("34 at the least", x, x.left(0, 2, 10, 40, false), -155, 2);
        c.tells("34 at the greatest", x, x.left(0, 2, 10, 40, true), -115, 2);
        c.tells("34 none left", x, x.left(0, 0, 0, 999, true), -75, 2);
        c.tells("34 fifty", x, x.left(0, 50, 70, 70, true), -75, 2);
        c.is("34 no BOAT ahead", x, x.left(1, 51, 0, 0, true), 2);
        c.is("34 too many", x, x.left(0, 51, 0, 0, true), 5);
        c.is("34 below 0", x, x.left(0, -1, 0, 0, true), 5);
        c.is("34 least", x, x.left(0, 1, -1, 0, true), 5);
        c.is("34 greatest", x, x.left(0, 1, 0, 1000, true), 5);
        c.is("34 greatest below", x, x.left(0, 1, 5, 4, true), 5);
        x.say(1, false, -1);
        c.tells("34 just those who left", x, x.left(0, 2, 10, 40, false), -195, 2);
        c.is("34 none at all", x, x.left(0, 0, 10, 40, false), 8);
        x.say(0, false, -1);
        c.is("34 none BEFORE", x, x.left(0, 2, 10, 40, false), 8);
    }

    private static void joined() {
        MayBoats x = pairs(FOUR, 100, 90, 50, 70, 50, 45, 10, 110);
        c.tells("35 joined", x, x.joined(), 25, 1);
        x.say(0, false, -1);
        c.tells("35 one has none", x, x.joined(), 245, 3);
        x.say(6, false, -1);
        c.is("35 none has one", x, x.joined(), 8);
        MayBoats y = Checks.of("town a; kind x;");
        c.is("35 no BOATS", y, y.joined(), 8);
        MayBoats z = pairs("town a; town b; town c; kind x; boat a 6; boat b 6; boat c 6;", 0, 10, 0, 20, 0, 50);
        c.tells("35 three of them", z, z.joined(), 0, 1);
    }

    private static void needs() {
        MayBoats x = Checks.of(TWO);
        int[][] rows = {{0, 0, 0}, {0, 0, 10}, {0, 6, 5}, {1, 0, 5}, {1, 6, 5}};
        for (int[] r : rows) {
            Checks.sheet(x, r[0], r[1], 0, 0, r[2], -1);
        }
        c.is("36 needs", x, x.needs(0, 1), 100, 0);
        c.is("36 needs", x, x.needs(0, 3), 12, 0);
        c.is("36 just at most", x, x.needs(0, 10), 1, 0);
        c.is("36 just above", x, x.needs(0, 9), 2, 0);
        c.is("36 1 and more", x, x.needs(0, 999), 1, 0);
        c.is("36 no BOAT ahead", x, x.needs(1, 0), -1, 2);
        c.is("36 x", x, x.needs(0, 0), -1, 5);
        c.is("36 x", x, x.needs(0, 1000), -1, 5);
        Checks.sheet(x, 1, 6, 0, 0, 6, -1);
        c.is("36 all four together", x, x.needs(0, 1), 101, 0);
        Checks.sheet(x, 1, 6, 0, 0, 6, -1);
        c.is("36 25 and 2 by 9", x, x.needs(0, 1), 101, 0);
        x.say(2, false, -1);
        c.is("36 no DIFFER", x, x.needs(0, 1), -1, 8);
    }

    private static void earlier() {
        MayBoats x = Checks.of(TWO);
        int[][] rows = {{0, 0, 10}, {0, 1, 20}, {0, 2, 60}, {0, 6, 50}, {1, 0, 10}, {1, 1, 10}, {1, 2, 10}, {1, 6, 10}};
        for (int[] r : rows) {
            Checks.sheet(x, r[0], r[1], 0, 0, r[2], -1);
        }
        x.years(0, 2, 6, 11);
        c.tells("37 earlier", x, x.earlier(0, 1), 30, 1);
        c.tells("37 earlier", x, x.earlier(0, 2), 45, 1);
        c.is("37 the first", x, x.earlier(0, 0), 5);
        c.is("37 behind the last", x, x.earlier(0, 3), 5);
        c.is("37 no BOAT ahead", x, x.earlier(1, 0), 2);
        c.is("38 earliers", x, x.earliers(0), 2, 0);
        x.say(3, false, 74);
        c.is("38 one is as great", x, x.earliers(0), 1, 0);
        x.say(3, false, 75);
        c.is("38 just as great", x, x.earliers(0), 1, 0);
        x.say(3, false, 76);
        c.is("38 none is as great", x, x.earliers(0), 0, 0);
        x.say(3, false, 0);
        c.tells("38 below 0", x, x.differ(0), -30, 1);
        c.is("38 in size", x, x.earliers(0), 2, 0);
        c.is("38 no BOAT", x, x.earliers(1), -1, 2);
        x.years(0, 2, 2, 11);
        c.tells("37 BEFORE alone matters", x, x.earlier(0, 2), 45, 1);
        c.is("38 no DIFFER", x, x.earliers(0), -1, 8);
        x.years(0, 3, 6, 11);
        c.is("37 none", x, x.earlier(0, 3), 8);
        x.years(2, 2, 6, 11);
        c.is("37 one YEAR alone", x, x.earlier(0, 2), 5);
        c.is("38 one YEAR alone", x, x.earliers(0), 0, 0);
    }

    private static void trend() {
        MayBoats x = Checks.of("town a; town b; town c; kind x; boat a 6;");
        int[][] rows = {{0, 0, 10}, {0, 1, 20}, {0, 3, 10}, {0, 3, 30}, {1, 1, 60}, {0, 9, 900}};
        for (int[] r : rows) {
            Checks.sheet(x, r[0], r[1], 0, 0, r[2], -1);
        }
        c.tells("39 trend", x, x.trend(1), 20, 7);
        c.tells("39 together", x, x.trend(3), 10, 7);
        c.is("39 one YEAR", x, x.trend(2), 8);
        c.is("39 no YEAR", x, x.trend(4), 8);
        c.is("39 none", x, x.trend(0), 8);
        c.is("39 with others", x, x.trend(8), 2);
        c.is("39 with others", x, x.trend(-1), 2);
        c.is("40 one has none", x, x.split(0), 8);
        Checks.sheet(x, 1, 2, 0, 0, 50, -1);
        c.tells("39 down", x, x.trend(2), -10, 1);
        c.tells("40 split", x, x.split(0), 90, 7);
        c.tells("40 split", x, x.split(1), -90, 7);
        c.is("40 no TREND", x, x.split(2), 8);
        c.is("40 no TOWN", x, x.split(3), 2);
        x.beside(1);
        c.is("40 BESIDE but itself is none", x, x.split(0), 8);
        x.years(0, 9, 0, 9);
        c.is("39 YEARS of both", x, x.trend(1), 0);
    }

    private static void parts() {
        MayBoats x = Checks.of("town a; kind x; kind y; kind z;");
        int[][] rows = {{0, 0, 10}, {0, 0, 20}, {0, 1, 40}, {6, 0, 30}, {6, 1, 50}, {7, 1, 70}, {8, 1, 90}};
        for (int[] r : rows) {
            Checks.sheet(x, 0, r[0], r[1], 0, r[2], -1);
        }
        c.tells("41 mix", x, x.mix(0), 125, 12);
        c.tells("42 pure", x, x.pure(0), 105, 4);
        c.is("41 no TOWN", x, x.mix(1), 2);
        c.is("42 no TOWN", x, x.pure(-1), 2);
        x.cut(1, 15);
        c.tells("41 one KIND", x, x.mix(0), 0, 1);
        c.tells("42 one KIND", x, x.pure(0), 15, 1);
        x.cut(7, 15);
        x.years(0, 6, 6, 11);
        c.is("41 a YEAR of both", x, x.mix(0), 8);
        c.is("42 a YEAR of both", x, x.pure(0), 8);
        x.years(0, 5, 6, 11);
        x.say(3, false, -1);
        c.tells("41 none of x AFTER", x, x.mix(0), 50, 3);
        c.tells("42 none of x AFTER", x, x.pure(0), 30, 1);
        Checks.sheet(x, 0, 9, 2, 0, 1, -1);
        c.is("41 z not BEFORE", x, x.mix(0), 8);
        c.is("42 z not BEFORE", x, x.pure(0), 8);
        x.years(0, 5, 10, 11);
        c.is("41 nothing AFTER", x, x.mix(0), 8);
        c.is("42 nothing AFTER", x, x.pure(0), 8);
        x.years(2, 5, 6, 8);
        c.is("41 nothing BEFORE", x, x.mix(0), 8);
        c.is("42 nothing BEFORE", x, x.pure(0), 8);
    }

    public static void main(String[] args) {
        farAndChance();
        weave();
        weaveFour();
        prices();
        cuts();
        right();
        left();
        joined();
        needs();
        earlier();
        trend();
        parts();
        c.end("DifferTest");
    }
}
