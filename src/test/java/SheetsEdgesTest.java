/** The edges that section 2 of the document and promises 15 to 25 name, each with a test of its own. */
public final class SheetsEdgesTest {
    private static final Checks c = new Checks();
    private static final int FAR = Integer.MAX_VALUE;
    private static final int FAR_BELOW = Integer.MIN_VALUE;

    // ---- promise 15

    private static void aSheetsNumbers() {
        long[] least = {0, 0, 0, 0, -1, -1};
        long[] greatest = {2, 11, 1, 3, 999, 999};
        MayBoats x = Checks.of(Checks.LAND);
        c.is("all the least", x, Checks.sheet(x, least), 0, 0);
        c.is("all the greatest", x, Checks.sheet(x, greatest), 1, 0);
        for (int k = 0; k < 6; k++) {
            long[] below = least.clone();
            below[k]--;
            c.is("too small " + k, x, Checks.sheet(x, below), -1, 5);
            long[] above = greatest.clone();
            above[k]++;
            c.is("too large " + k, x, Checks.sheet(x, above), -1, 5);
            above[k] = Long.MAX_VALUE;
            c.is("far too large " + k, x, Checks.sheet(x, above), -1, 5);
            above[k] = (1L << 32) + least[k];
            c.is("by 32 bits it would do " + k, x, Checks.sheet(x, above), -1, 5);
            below[k] = Long.MIN_VALUE;
            c.is("far too small " + k, x, Checks.sheet(x, below), -1, 5);
        }
        c.is("just two came", x, x.many(4), 2, 0);
    }

    private static void sixtySheetsAreTheMost() {
        MayBoats x = Checks.of(Checks.LAND);
        x.tray(3, 1, 6);
        for (int i = 0; i < 60; i++) {
            c.is("its number", x, x.sheet(3), i, 0);
        }
        c.is("one too many", x, x.sheet(3), -1, 7);
        c.is("sixty", x, x.many(4), 60, 0);
        c.is("the last one", x, x.look(59, 1), 0, 0);
        x.write(3, 4, 1000);
        c.is("5 ahead of 7", x, x.sheet(3), -1, 5);
        x.tray(3, 1, 5);
        c.is("4 ahead of 7", x, x.sheet(3), -1, 4);
        c.is("3 ahead of 7", x, x.sheet(0), -1, 3);
        c.is("1 ahead of 7", x, x.sheet(4), -1, 1);
    }

    private static void tooFewNumbers() {
        MayBoats x = Checks.of(Checks.LAND);
        for (int many = 0; many < 6; many++) {
            x.tray(0, 0, many);
            c.is("a TRAY of " + many, x, x.sheet(0), -1, 4);
        }
        x.tray(0, 0, 6);
        c.is("a TRAY of 6", x, x.sheet(0), 0, 0);
        x.tray(0, 0, 60);
        c.is("a TRAY of 60", x, x.sheet(0), 1, 0);
    }

    private static void tooFewAheadOfNumbers() {
        MayBoats x = Checks.of(Checks.LAND);
        c.is("five, of which none can be", x, Checks.sheet(x, 99, 99, 99, 99, 9999), -1, 4);
        c.is("what is behind the sixth is nothing to it", x, Checks.sheet(x, 0, 0, 0, 0, 0, 0, 9999), 0, 0);
    }

    private static void aSheetOfEachSortOfTray() {
        MayBoats x = Checks.of(Checks.LAND);
        for (int sort = 0; sort < 4; sort++) {
            x.tray(0, sort, 6);
            x.write(0, 4, 127);
            x.write(0, 5, -1);
            c.is("sort " + sort, x, x.sheet(0), sort, 0);
            c.is("its WAGE", x, x.look(sort, 4), 127, 0);
            c.is("no RENT", x, x.look(sort, 5), -1, 8);
        }
        x.tray(0, 0, 6);
        x.write(0, 4, 255);
        c.is("255 is -1 by 8 bits", x, x.sheet(0), 4, 0);
        c.is("it would not say", x, x.look(4, 4), -1, 8);
        x.write(0, 4, 128);
        c.is("128 is -128 by 8 bits", x, x.sheet(0), -1, 5);
    }

    private static void aSheetIsNoTray() {
        MayBoats x = Checks.of(Checks.LAND);
        Checks.sheet(x, 1, 2, 1, 3, 4, 5);
        x.write(3, 4, 900);
        c.is("its WAGE", x, x.look(0, 4), 4, 0);
        x.say(0, false, 7);
        c.is("the TRAY", x, x.read(3, 4), 900, 0);
    }

    private static void noLandNoSheet() {
        MayBoats x = new MayBoats();
        x.tray(0, 0, 6);
        c.is("no TOWNS", x, x.sheet(0), -1, 5);
        Checks.land(x, "town a;");
        c.is("no KINDS", x, x.sheet(0), -1, 5);
        Checks.land(x, "kind a;");
        c.is("no TOWNS", x, x.sheet(0), -1, 5);
        Checks.land(x, "kind a;town b;");
        c.is("both", x, x.sheet(0), 0, 0);
    }

    // ---- promises 16 and 17

    private static void lookOutside() {
        MayBoats x = Checks.three();
        for (int sheet : new int[] {-1, 6, 60, FAR, FAR_BELOW}) {
            c.is("look " + sheet, x, x.look(sheet, 0), -1, 2);
            c.is("2 ahead of 5", x, x.look(sheet, 6), -1, 2);
            c.is("say " + sheet, x, x.say(sheet, false, 1), 2);
            c.is("2 ahead of 5", x, x.say(sheet, true, 1000), 2);
        }
        for (int what : new int[] {-1, 6, FAR, FAR_BELOW}) {
            c.is("what " + what, x, x.look(4, what), -1, 5);
        }
        c.is("the last SHEET", x, x.look(5, 0), 2, 0);
    }

    private static void itWouldNotSay() {
        MayBoats x = Checks.of(Checks.LAND, Checks.row(0, 0, 0, 0, -1, -1), Checks.row(0, 0, 0, 0, 0, 0));
        c.is("no WAGE", x, x.look(0, 4), -1, 8);
        c.is("no RENT", x, x.look(0, 5), -1, 8);
        c.is("a WAGE of 0", x, x.look(1, 4), 0, 0);
        c.is("a RENT of 0", x, x.look(1, 5), 0, 0);
    }

    private static void sayFromMinus1To999() {
        MayBoats x = Checks.of(Checks.LAND, Checks.row(0, 0, 0, 0, 5, 6));
        for (boolean rent : new boolean[] {false, true}) {
            int cell = rent ? 5 : 4;
            for (int v : new int[] {-2, 1000, FAR, FAR_BELOW}) {
                c.is("say " + v, x, x.say(0, rent, v), 5);
                c.is("as it was", x, x.look(0, cell), cell + 1, 0);
            }
            c.is("say 999", x, x.say(0, rent, 999), 0);
            c.is("999", x, x.look(0, cell), 999, 0);
            c.is("say 0", x, x.say(0, rent, 0), 0);
            c.is("0", x, x.look(0, cell), 0, 0);
            c.is("say -1", x, x.say(0, rent, -1), 0);
            c.is("it would not say", x, x.look(0, cell), -1, 8);
            c.is("and says again", x, x.say(0, rent, cell + 1), 0);
        }
        c.is("the WAGE", x, x.look(0, 4), 5, 0);
        c.is("the RENT", x, x.look(0, 5), 6, 0);
    }

    // ---- promises 18 to 22

    private static void setsWithOthers() {
        MayBoats x = Checks.of(Checks.LAND);
        c.is("all TOWNS", x, x.beside(7), 0);
        c.is("no TOWN", x, x.beside(0), 0);
        for (int set : new int[] {8, 15, 64, -1, -8, FAR, FAR_BELOW}) {
            c.is("beside " + set, x, x.beside(set), 2);
            c.is("trend " + set, x, x.trend(set), 2);
        }
        c.is("still none", x, x.sight(0), 0, 0);
        c.is("all KINDS", x, x.cut(3, 15), 0);
        c.is("no KIND", x, x.cut(0, 0), 0);
        for (int set : new int[] {4, 7, 64, -1, -4, FAR, FAR_BELOW}) {
            c.is("cut " + set, x, x.cut(set, 15), 2);
            c.is("2 ahead of 5", x, x.cut(set, 16), 2);
        }
        for (int set : new int[] {-1, 16, FAR, FAR_BELOW}) {
            c.is("STREETS " + set, x, x.cut(1, set), 5);
        }
        c.is("still no KIND", x, x.sight(1), 0, 0);
        c.is("still no STREET", x, x.sight(2), 0, 0);
    }

    private static void setsOfSix() {
        MayBoats x = Checks.of("town a;town b;town c;town d;town e;town f;kind g;kind h;kind i;kind j;kind k;kind m;");
        c.is("BESIDE", x, x.sight(0), 63, 0);
        c.is("CUT", x, x.sight(1), 63, 0);
        c.is("a seventh TOWN", x, x.beside(64), 2);
        c.is("a seventh KIND", x, x.cut(64, 0), 2);
        c.is("the sixth TOWN", x, x.beside(32), 0);
        c.is("the sixth KIND", x, x.cut(32, 8), 0);
    }

    private static void yearsFrom0To11() {
        MayBoats x = Checks.of(Checks.LAND);
        c.is("all of both", x, x.years(0, 11, 0, 11), 0);
        c.is("one of each", x, x.years(0, 0, 11, 11), 0);
        int[][] wrong = {{-1, 0, 1, 1}, {0, 12, 1, 1}, {12, 12, 1, 1}, {1, 0, 1, 1}, {0, 0, -1, 1}, {0, 0, 1, 12},
            {0, 0, 12, 12}, {0, 0, 2, 1}, {FAR_BELOW, 0, 1, 1}, {0, FAR, 1, 1}, {0, 0, FAR_BELOW, 1}, {0, 0, 1, FAR}};
        for (int[] y : wrong) {
            c.is("can't be", x, x.years(y[0], y[1], y[2], y[3]), 5);
        }
        int[] still = {0, 0, 11, 11};
        for (int k = 0; k < 4; k++) {
            c.is("as they were", x, x.sight(3 + k), still[k], 0);
        }
    }

    private static void whatOthersOfTheSight() {
        MayBoats x = Checks.of(Checks.LAND);
        for (int what : new int[] {-1, 8, FAR, FAR_BELOW}) {
            c.is("sight " + what, x, x.sight(what), -1, 5);
        }
    }

    // ---- promises 23 and 24

    private static void countsByItsYears() {
        MayBoats x = Checks.plain(Checks.LAND, Checks.row(0, 3, 1), Checks.row(0, 5, 1), Checks.row(0, 11, 1),
                Checks.row(0, 0, 1));
        c.is("from its YEAR", x, x.counts(0, 3, 4), 1, 0);
        c.is("to its YEAR", x, x.counts(0, 2, 3), 1, 0);
        c.is("its YEAR alone", x, x.counts(0, 3, 3), 1, 0);
        c.is("just behind it", x, x.counts(0, 4, 4), 0, 0);
        c.is("just ahead of it", x, x.counts(0, 1, 2), 0, 0);
        c.is("the first YEAR", x, x.counts(0, 0, 0), 1, 0);
        c.is("the last YEAR", x, x.counts(0, 11, 11), 1, 0);
        c.is("all", x, x.counts(0, 0, 11), 4, 0);
    }

    private static void countsByTheSight() {
        MayBoats x = Checks.of(Checks.LAND, Checks.row(0, 0, 0, 0, 1, -1), Checks.row(0, 0, 1, 3, -1, 2));
        c.is("who says a WAGE", x, x.counts(0, 0, 0), 1, 0);
        x.cut(2, 15);
        c.is("of the other KIND", x, x.counts(0, 0, 0), 0, 0);
        x.rents(true);
        c.is("who says a RENT", x, x.counts(0, 0, 0), 1, 0);
        x.cut(2, 7);
        c.is("of other STREETS", x, x.counts(0, 0, 0), 0, 0);
        x.cut(2, 8);
        c.is("of its STREET", x, x.counts(0, 0, 0), 1, 0);
        x.cut(1, 8);
        c.is("of its STREET, of no KIND", x, x.counts(0, 0, 0), 0, 0);
        c.is("of another TOWN", x, x.counts(1, 0, 11), 0, 0);
        x.cut(2, 8);
        x.years(1, 1, 2, 2);
        x.beside(0);
        c.is("BESIDE, BEFORE, AFTER are nothing to it", x, x.counts(0, 0, 0), 1, 0);
    }

    private static void yearsThatCannotBe() {
        MayBoats x = Checks.three();
        int[][] wrong = {{-1, 0}, {0, 12}, {12, 12}, {5, 4}, {FAR_BELOW, FAR}, {0, FAR}, {FAR_BELOW, 0}};
        for (int[] y : wrong) {
            c.is("counts", x, x.counts(0, y[0], y[1]), -1, 5);
            c.is("mean", x, x.mean(0, y[0], y[1]), 5);
            c.is("2 ahead of 5", x, x.counts(3, y[0], y[1]), -1, 2);
            c.is("2 ahead of 5", x, x.mean(-1, y[0], y[1]), 2);
        }
    }

    private static void aMeanOfNoughtAndOfNone() {
        MayBoats x = Checks.plain(Checks.LAND, Checks.row(0, 0, 0), Checks.row(0, 1, 0), Checks.row(1, 0, 6),
                Checks.row(1, 0, 4), Checks.row(1, 0, 2), Checks.row(1, 0, 0));
        c.tells("nought", x, x.mean(0, 0, 11), 0, 1);
        c.tells("12 by 4", x, x.mean(1, 0, 0), 3, 1);
        c.is("none", x, x.mean(2, 0, 11), 8);
        c.fraction("as it was", x, 3, 1);
        x.cut(3, 0);
        c.is("no STREET", x, x.mean(1, 0, 0), 8);
    }

    private static void aMeanOfSixty() {
        MayBoats x = Checks.of(Checks.LAND);
        Checks.sheet(x, 0, 0, 0, 0, 998, -1);
        x.write(3, 4, 999);
        for (int i = 1; i < 60; i++) {
            x.sheet(3);
        }
        c.is("all", x, x.counts(0, 0, 0), 60, 0);
        c.tells("their MEAN", x, x.mean(0, 0, 0), 59939, 60);
    }

    // ---- promise 25

    /** Own BEFORE, own AFTER, others' BEFORE, others' AFTER, all there. */
    private static MayBoats four() {
        return Checks.plain(Checks.LAND, Checks.row(0, 5, 10), Checks.row(0, 6, 30), Checks.row(1, 5, 10),
                Checks.row(1, 6, 15));
    }

    private static void oneOfTheFourIsNone() {
        MayBoats x = four();
        c.tells("all four", x, x.differ(0), 15, 1);
        for (int sheet = 0; sheet < 4; sheet++) {
            int wage = x.look(sheet, 4);
            x.say(sheet, false, -1);
            c.is("without " + sheet, x, x.differ(0), 8);
            c.is("nor that of the other", x, x.differ(1), 8);
            x.say(sheet, false, wage);
        }
        c.tells("all four again", x, x.differ(0), 15, 1);
    }

    private static void yearsOfBoth() {
        MayBoats x = four();
        int[][] both = {{0, 6, 6, 11}, {6, 11, 0, 6}, {0, 11, 0, 11}, {5, 5, 5, 6}, {0, 11, 6, 6}, {6, 6, 0, 11},
            {0, 5, 5, 11}};
        for (int[] y : both) {
            x.years(y[0], y[1], y[2], y[3]);
            c.is("differ", x, x.differ(0), 8);
            c.is("right", x, x.right(0), 8);
            c.is("mix", x, x.mix(0), 8);
            c.is("pure", x, x.pure(0), 8);
        }
        int[][] apart = {{0, 5, 6, 11}, {5, 5, 6, 6}, {4, 5, 6, 7}};
        for (int[] y : apart) {
            x.years(y[0], y[1], y[2], y[3]);
            c.tells("differ", x, x.differ(0), 15, 1);
            c.tells("right", x, x.right(0), 15, 1);
            c.tells("mix", x, x.mix(0), 0, 1);
            c.tells("pure", x, x.pure(0), 20, 1);
        }
        x.years(6, 6, 5, 5);
        c.tells("AFTER ahead of BEFORE", x, x.differ(0), -15, 1);
    }

    private static void besideButItself() {
        MayBoats x = four();
        x.beside(1 + 2);
        c.tells("with itself", x, x.differ(0), 15, 1);
        x.beside(2);
        c.tells("without", x, x.differ(0), 15, 1);
        x.beside(1);
        c.is("itself alone", x, x.differ(0), 8);
        x.beside(0);
        c.is("none", x, x.differ(0), 8);
        x.beside(4);
        c.is("a TOWN without SHEETS", x, x.differ(0), 8);
    }

    private static void allTheirSheetsTogether() {
        MayBoats x = four();
        Checks.sheet(x, 2, 0, 0, 0, 10, -1);
        Checks.sheet(x, 2, 0, 0, 0, 13, -1);
        // The others: 10, 10, 13 BEFORE, 15 AFTER.
        c.tells("a TOWN with none AFTER", x, x.differ(0), 16, 1);
    }

    private static void noTown() {
        MayBoats x = four();
        for (int town : new int[] {-1, 3, 6, FAR, FAR_BELOW}) {
            c.is("differ " + town, x, x.differ(town), 2);
            c.is("counts " + town, x, x.counts(town, 0, 0), -1, 2);
            c.is("mean " + town, x, x.mean(town, 0, 0), 2);
            c.is("split " + town, x, x.split(town), 2);
            c.is("mix " + town, x, x.mix(town), 2);
            c.is("pure " + town, x, x.pure(town), 2);
            c.is("said " + town, x, x.said(town), -1, 2);
            c.is("turned " + town, x, x.turned(town), -1, 2);
        }
    }

    private static void theGreatestAndLeastDiffer() {
        MayBoats x = Checks.plain(Checks.LAND, Checks.row(0, 0, 999), Checks.row(0, 6, 0), Checks.row(1, 0, 0),
                Checks.row(1, 6, 999));
        c.tells("the least", x, x.differ(0), -1998, 1);
        c.tells("the greatest", x, x.differ(1), 1998, 1);
    }

    public static void main(String[] args) {
        Checks.callAll(SheetsEdgesTest.class);
        c.end("SheetsEdgesTest");
    }
}
