/** Promises 15 to 25: SHEETS, the SIGHT, MEANS, DIFFER. */
public final class SheetsAndSightTest {
    private static final Checks c = new Checks();

    private static void sheet() {
        MayBoats x = Checks.of(Checks.LAND);
        c.is("15 no TRAY", x, x.sheet(4), -1, 1);
        c.is("15 no TRAY", x, x.sheet(-1), -1, 1);
        c.is("15 missing", x, x.sheet(0), -1, 3);
        c.is("15 too few", x, Checks.sheet(x, 9, 99, 9, 9, 9999), -1, 4);
        long[][] wrong = {{3, 0, 0, 0, 0, 0}, {-1, 0, 0, 0, 0, 0}, {0, 12, 0, 0, 0, 0}, {0, -1, 0, 0, 0, 0},
            {0, 0, 2, 0, 0, 0}, {0, 0, -1, 0, 0, 0}, {0, 0, 0, 4, 0, 0}, {0, 0, 0, -1, 0, 0}, {0, 0, 0, 0, 1000, 0},
            {0, 0, 0, 0, -2, 0}, {0, 0, 0, 0, 0, 1000}, {0, 0, 0, 0, 0, -2}, {1L << 32, 0, 0, 0, 0, 0},
            {0, 0, 0, 0, 0, 1L << 40}};
        for (long[] six : wrong) {
            c.is("15 a number that can't be", x, Checks.sheet(x, six), -1, 5);
        }
        c.is("15 none came", x, x.many(4), 0, 0);
        c.is("15 the first", x, Checks.sheet(x, 2, 11, 1, 3, 999, -1), 0, 0);
        c.is("15 a longer TRAY", x, Checks.sheet(x, 0, 0, 0, 0, -1, 0, 77, 88), 1, 0);
        for (int i = 2; i < 60; i++) {
            c.is("15 more", x, x.sheet(3), i, 0);
        }
        c.is("15 one too many", x, Checks.sheet(x, 0, 0, 0, 0, 0, 0), -1, 7);
        c.is("15 5 ahead of 7", x, Checks.sheet(x, 0, 0, 0, 0, 0, 1000), -1, 5);
        c.is("15 sixty", x, x.many(4), 60, 0);
        MayBoats y = new MayBoats();
        y.tray(0, 0, 6);
        c.is("15 no LAND", y, y.sheet(0), -1, 5);
    }

    private static void lookAndSay() {
        MayBoats x = Checks.of(Checks.LAND);
        Checks.sheet(x, 2, 11, 1, 3, 999, -1);
        long[] six = {2, 11, 1, 3, 999};
        for (int what = 0; what < 5; what++) {
            c.is("16 look", x, x.look(0, what), six[what], 0);
        }
        c.is("16 would not say", x, x.look(0, 5), -1, 8);
        c.is("16 what", x, x.look(0, 6), -1, 5);
        c.is("16 what", x, x.look(0, -1), -1, 5);
        c.is("16 no SHEET ahead of what", x, x.look(1, 6), -1, 2);
        c.is("16 no SHEET", x, x.look(-1, 0), -1, 2);
        c.is("17 another RENT", x, x.say(0, true, 0), 0);
        c.is("17 it is there", x, x.look(0, 5), 0, 0);
        c.is("17 the WAGE is as it was", x, x.look(0, 4), 999, 0);
        c.is("17 no WAGE", x, x.say(0, false, -1), 0);
        c.is("17 it would not say", x, x.look(0, 4), -1, 8);
        c.is("17 the RENT is as it was", x, x.look(0, 5), 0, 0);
        c.is("17 too much", x, x.say(0, false, 1000), 5);
        c.is("17 too little", x, x.say(0, true, -2), 5);
        c.is("17 no SHEET ahead of that", x, x.say(1, true, 1000), 2);
        c.is("17 nothing changed", x, x.look(0, 5), 0, 0);
    }

    private static void sight() {
        MayBoats x = Checks.of(Checks.LAND);
        c.is("18 beside", x, x.beside(5), 0);
        c.is("22 BESIDE", x, x.sight(0), 5, 0);
        c.is("18 with others", x, x.beside(8), 2);
        c.is("18 with others", x, x.beside(-1), 2);
        c.is("18 as it was", x, x.sight(0), 5, 0);
        c.is("18 none", x, x.beside(0), 0);
        c.is("22 BESIDE", x, x.sight(0), 0, 0);
        c.is("19 cut", x, x.cut(2, 9), 0);
        c.is("22 CUT", x, x.sight(1), 2, 0);
        c.is("22 STREETS", x, x.sight(2), 9, 0);
        c.is("19 with others ahead of STREETS", x, x.cut(4, 16), 2);
        c.is("19 with others", x, x.cut(Integer.MIN_VALUE, 0), 2);
        c.is("19 STREETS", x, x.cut(1, 16), 5);
        c.is("19 STREETS", x, x.cut(1, -1), 5);
        c.is("19 as it was", x, x.sight(1), 2, 0);
        c.is("19 none", x, x.cut(0, 0), 0);
        c.is("20 years", x, x.years(1, 1, 0, 11), 0);
        int[] put = {1, 1, 0, 11};
        for (int k = 0; k < 4; k++) {
            c.is("22 YEARS", x, x.sight(3 + k), put[k], 0);
        }
        int[][] wrong = {{-1, 1, 2, 3}, {2, 1, 3, 4}, {0, 12, 3, 4}, {0, 1, -1, 4}, {0, 1, 5, 4}, {0, 1, 5, 12},
            {12, 12, 0, 0}};
        for (int[] y : wrong) {
            c.is("20 YEARS that can't be", x, x.years(y[0], y[1], y[2], y[3]), 5);
        }
        c.is("20 as they were", x, x.sight(6), 11, 0);
        c.is("21 rents", x, x.rents(true), 0);
        c.is("22 of RENTS", x, x.sight(7), 1, 0);
        c.is("21 wages", x, x.rents(false), 0);
        c.is("22 of WAGES", x, x.sight(7), 0, 0);
        c.is("22 what", x, x.sight(8), -1, 5);
        c.is("22 what", x, x.sight(-1), -1, 5);
    }

    private static MayBoats five() {
        MayBoats x = Checks.of(Checks.LAND);
        Checks.sheet(x, 0, 0, 0, 0, 10, 1);
        Checks.sheet(x, 0, 0, 1, 1, 11, 2);
        Checks.sheet(x, 0, 2, 0, 2, 20, -1);
        Checks.sheet(x, 0, 3, 1, 3, -1, 4);
        Checks.sheet(x, 1, 0, 0, 0, 999, 999);
        return x;
    }

    private static void countsAndMean() {
        MayBoats x = five();
        c.is("23 counts", x, x.counts(0, 0, 11), 3, 0);
        c.is("23 from a YEAR to one", x, x.counts(0, 0, 0), 2, 0);
        c.is("23 from a YEAR to one", x, x.counts(0, 1, 2), 1, 0);
        c.tells("24 mean", x, x.mean(0, 0, 11), 41, 3);
        x.rents(true);
        c.is("23 of RENTS", x, x.counts(0, 0, 11), 3, 0);
        c.tells("24 of RENTS", x, x.mean(0, 0, 11), 7, 3);
        x.rents(false);
        x.cut(1, 15);
        c.tells("24 of a KIND", x, x.mean(0, 0, 11), 15, 1);
        x.cut(3, 2);
        c.tells("24 of a STREET", x, x.mean(0, 0, 11), 11, 1);
        x.cut(0, 15);
        c.is("23 of no KIND", x, x.counts(0, 0, 11), 0, 0);
        c.is("24 none", x, x.mean(0, 0, 11), 8);
        x.beside(0);
        x.cut(3, 15);
        c.is("23 BESIDE is nothing to it", x, x.counts(1, 0, 0), 1, 0);
        c.is("23 no TOWN ahead of YEARS", x, x.counts(3, 5, 4), -1, 2);
        c.is("23 YEARS", x, x.counts(0, 5, 4), -1, 5);
        c.is("23 YEARS", x, x.counts(0, 0, 12), -1, 5);
        c.is("23 YEARS", x, x.counts(0, -1, 2), -1, 5);
        c.is("24 no TOWN", x, x.mean(-1, 0, 1), 2);
        c.is("24 YEARS", x, x.mean(0, 12, 12), 5);
        c.is("24 none", x, x.mean(2, 0, 11), 8);
    }

    private static void differ() {
        MayBoats x = Checks.three();
        c.tells("25 differ", x, x.differ(0), -75, 2);
        c.tells("25 differ", x, x.differ(1), 15, 1);
        c.tells("25 differ", x, x.differ(2), 45, 2);
        c.is("25 no TOWN", x, x.differ(3), 2);
        c.is("25 no TOWN", x, x.differ(-1), 2);
        x.beside(2);
        c.tells("25 BESIDE one", x, x.differ(0), -35, 1);
        c.is("25 BESIDE but itself is none", x, x.differ(1), 8);
        x.beside(7);
        x.years(0, 5, 5, 11);
        c.is("25 a YEAR of both", x, x.differ(0), 8);
        x.years(6, 11, 0, 5);
        c.tells("25 AFTER ahead of BEFORE", x, x.differ(0), 75, 2);
        x.years(0, 5, 6, 6);
        c.tells("25 YEARS of AFTER", x, x.differ(0), -55, 1);
        x.years(1, 5, 6, 11);
        c.is("25 no MEAN BEFORE", x, x.differ(0), 8);
        x.years(0, 5, 7, 11);
        c.is("25 no MEAN AFTER", x, x.differ(0), 8);
        x.years(0, 5, 6, 11);
        x.say(1, false, -1);
        c.is("25 would not say", x, x.differ(0), 8);
        c.tells("25 others without it", x, x.differ(1), 20, 1);
    }

    public static void main(String[] args) {
        sheet();
        lookAndSay();
        sight();
        countsAndMean();
        differ();
        c.end("SheetsAndSightTest");
    }
}
