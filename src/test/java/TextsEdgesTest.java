/** The edges that sections 4 to 5b of the document and promises 43 to 54 name, each with a test of its own. */
public final class TextsEdgesTest {
    private static final Checks c = new Checks();
    private static final int FAR = Integer.MAX_VALUE;
    private static final int FAR_BELOW = Integer.MIN_VALUE;
    private static final String TWO = "town a;town b;kind x;kind y;boat a 6;";
    private static final String[] LAND_WORDS = {"town", "kind", "boat", "law", "year", "street", "hit", "draw"};
    private static final String[] WAYS_WORDS =
        {"beside", "cut", "streets", "before", "after", "wages", "rents", "try", "each", "end", "least"};
    private static final String[] LINE_WORDS = {"or", "and", "not", "fell", "rose", "held", "of", "least"};

    /** Own BEFORE, own AFTER, the other's BEFORE, the other's AFTER, all of KIND 0. */
    private static MayBoats four(String land, int... wages) {
        MayBoats x = Checks.of(land);
        for (int i = 0; i < 4; i++) {
            Checks.sheet(x, i / 2, i % 2 * 6, 0, 0, wages[i], -1);
        }
        return x;
    }

    // ---- promise 43

    private static void seedsFrom0To9999() {
        MayBoats x = Checks.plain("town a;kind k;law l draw;", Checks.row(0, 0, 1), Checks.row(0, 0, 1), Checks.row(0, 0, 1));
        for (int seed : new int[] {-1, 10000, FAR, FAR_BELOW}) {
            c.is("seed " + seed, x, x.world(0, seed), -1, 5);
            c.is("2 ahead of 5", x, x.world(1, seed), -1, 2);
        }
        c.is("as it was", x, x.look(0, 4), 1, 0);
        c.is("the first SEED", x, x.world(0, 0), 3, 0);
        // s is 11,113, then 2,886, then 36,263.
        int[] draws = {94, 80, 66};
        for (int i = 0; i < 3; i++) {
            c.is("draw " + i, x, x.look(i, 4), draws[i], 0);
        }
        c.is("the last SEED", x, x.world(0, 9999), 3, 0);
        c.is("s is 32,100", x, x.look(0, 4), 6, 0);
    }

    private static void noSuchLaw() {
        MayBoats x = four(TWO + "law l 1;", 1, 1, 1, 1);
        for (int law : new int[] {-1, 1, FAR, FAR_BELOW}) {
            c.is("world", x, x.world(law, -1), -1, 2);
            c.is("span", x, x.span(0, law, -1, 0, 3), -1, 2);
            c.is("odds", x, x.odds(0, law, -1, 0, -1), 2);
            c.is("tells", x, x.tells(law, 0, 0, 0, 0, 0), -1, 2);
        }
    }

    private static void aWorldOfNone() {
        MayBoats x = Checks.of("town a;kind k;law l 5;");
        c.is("no SHEETS", x, x.world(0, 0), 0, 0);
        Checks.sheet(x, 0, 0, 0, 0, -1, 7);
        c.is("it would not say", x, x.world(0, 0), 0, 0);
        c.is("it would not say", x, x.look(0, 4), -1, 8);
        c.is("its RENT", x, x.look(0, 5), 7, 0);
        Checks.sheet(x, 0, 0, 0, 0, 5, -1);
        c.is("it is that already", x, x.world(0, 0), 0, 0);
        x.say(1, false, 6);
        c.is("it becomes another one", x, x.world(0, 0), 1, 0);
    }

    private static void whoWouldNotSayHasADraw() {
        MayBoats x = Checks.plain("town a;kind k;law l draw;", Checks.row(0, 0, -1), Checks.row(0, 0, 1));
        c.is("one of two", x, x.world(0, 0), 1, 0);
        c.is("the second draw", x, x.look(1, 4), 80, 0);
    }

    private static void aWorldOfSixty() {
        MayBoats x = Checks.of("town a;kind k;law l 7;");
        x.tray(0, 0, 6);
        for (int i = 0; i < 60; i++) {
            x.sheet(0);
        }
        x.beside(0);
        x.cut(0, 0);
        c.is("all, whatever the SIGHT", x, x.world(0, 1), 60, 0);
        c.is("the last", x, x.look(59, 4), 7, 0);
    }

    private static void wagesCutTo0And999() {
        MayBoats x = Checks.of("town a;kind k;law l 0-1;law m 1000;law n 999;law o 1-1;", Checks.row(0, 0, 0, 0, 5, 5));
        int[] wages = {0, 999, 999, 0};
        for (int law = 0; law < 4; law++) {
            x.world(law, 3);
            c.is("by LAW " + law, x, x.look(0, 4), wages[law], 0);
        }
    }

    // ---- promises 44 and 45

    private static void spanOfMinusOne() {
        MayBoats x = four(TWO + "law l 100-hit;", 1, 1, 1, 1);
        c.is("-1 is there", x, x.span(0, 0, 0, 50, 0), -1, 0);
        c.is("-1 is there", x, x.span(0, 0, 0, 50, 1), -1, 0);
        x.say(3, false, -1);
        c.is("NONE", x, x.span(0, 0, 0, 50, 0), -1, 8);
        c.is("NONE", x, x.span(0, 0, 0, 50, 1), -1, 8);
        c.is("how many", x, x.span(0, 0, 0, 50, 2), 0, 0);
    }

    private static void spanOutside() {
        MayBoats x = four(TWO + "law l draw;", 1, 1, 1, 1);
        for (int seed : new int[] {-1, 10000, FAR, FAR_BELOW}) {
            c.is("seed", x, x.span(0, 0, seed, 1, 2), -1, 5);
            c.is("seed", x, x.odds(0, 0, seed, 1, 0), 5);
        }
        for (int many : new int[] {0, 51, -1, FAR, FAR_BELOW}) {
            c.is("so many", x, x.span(0, 0, 0, many, 2), -1, 5);
            c.is("so many", x, x.odds(0, 0, 0, many, 999), 5);
        }
        for (int what : new int[] {-1, 3, FAR, FAR_BELOW}) {
            c.is("what", x, x.span(0, 0, 0, 1, what), -1, 5);
        }
        for (int within : new int[] {-1, 1000, FAR, FAR_BELOW}) {
            c.is("within", x, x.odds(0, 0, 0, 1, within), 5);
        }
        x.say(0, false, -1);
        c.is("5 ahead of 8", x, x.span(0, 0, 0, 0, 0), -1, 5);
        c.is("5 ahead of 8", x, x.odds(0, 0, 0, 1, 1000), 5);
        c.is("1 of the first SEED", x, x.span(0, 0, 0, 1, 2), 0, 0);
        x.say(0, false, 1);
        c.is("50 of the last SEED", x, x.span(0, 0, 9999, 50, 2), 50, 0);
    }

    private static void rounded(String law, int want) {
        MayBoats x = Checks.of(TWO + "law l " + law + ";", Checks.row(0, 0, 0, 0, 1, 1), Checks.row(0, 6, 0, 0, 1, 1),
                Checks.row(0, 6, 0, 1, 1, 1), Checks.row(1, 0, 0, 0, 1, 1), Checks.row(1, 6, 0, 0, 1, 1));
        c.is("the least by " + law, x, x.span(0, 0, 5, 3, 0), want, 0);
        c.is("the greatest by " + law, x, x.span(0, 0, 5, 3, 1), want, 0);
    }

    private static void roundedDown() {
        rounded("100+hit*street", 0);
        rounded("100-hit*street", -1);
        rounded("100-hit*street*2", -1);
        rounded("100-hit*street*3", -2);
        rounded("100+hit*street*3", 1);
    }

    private static void oddsBothRounded() {
        // The true one is -1 and a half: -2; by l it is -1, by m -2, by n -3.
        MayBoats x = Checks.of(TWO + "law l 9-hit;law m 9-2*hit;law n 9-3*hit;", Checks.row(0, 0, 0, 0, 9, -1),
                Checks.row(0, 6, 0, 0, 8, -1), Checks.row(0, 6, 0, 0, 7, -1), Checks.row(1, 0, 0, 0, 9, -1),
                Checks.row(1, 6, 0, 0, 9, -1));
        c.tells("the true one", x, x.differ(0), -3, 2);
        c.tells("by m alone", x, x.odds(0, 1, 0, 7, 0), 1, 1);
        c.tells("none by l", x, x.odds(0, 0, 0, 7, 0), 0, 1);
        c.tells("by all of them", x, x.odds(0, 0, 0, 7, 1), 1, 3);
        c.tells("by all of them", x, x.odds(0, 2, 9999, 50, 999), 1, 3);
    }

    private static void oddsOfNone() {
        MayBoats x = four(TWO + "law l 9;law m 9;", 0, 999, 0, 0);
        c.is("none of any LAW", x, x.odds(0, 0, 0, 50, 998), 8);
        c.tells("all of both", x, x.odds(0, 0, 0, 50, 999), 1, 2);
        x.say(0, false, -1);
        c.is("no DIFFER", x, x.odds(0, 0, 0, 50, 999), 8);
        c.fraction("as it was", x, 1, 2);
    }

    private static void drawsChangeNothing() {
        MayBoats x = four(TWO + "law l draw;", 1, 2, 3, 4);
        x.span(0, 0, 1, 50, 0);
        x.odds(0, 0, 1, 50, 999);
        for (int i = 0; i < 4; i++) {
            c.is("its WAGE", x, x.look(i, 4), i + 1, 0);
        }
    }

    // ---- promise 46

    private static MayBoats waysTaken(String land, String text, int steps) {
        MayBoats x = Checks.of(land);
        c.taken("ways of " + text, x, Checks.ways(x, text), steps);
        return x;
    }

    private static void waysFault(String text, int kind, int place) {
        MayBoats x = Checks.of("town a;town b;kind x;kind y;boat a 6;");
        c.fault("ways of " + text, x, Checks.ways(x, text), kind, place);
    }

    private static void waysOfAtMost300Bytes() {
        MayBoats x = Checks.of(TWO);
        c.is("0 of none", x, x.ways(0), 0, 0);
        c.is("1 of none", x, x.ways(1), -1, 5);
        Checks.feed(x, " ".repeat(296) + "try;try;" + " ".repeat(16));
        for (int n : new int[] {-1, 301, 304, 320, 321, FAR, FAR_BELOW}) {
            c.is("ways " + n, x, x.ways(n), -1, 5);
        }
        c.taken("300", x, x.ways(300), 1);
        c.is("the tape is empty then", x, x.ways(1), -1, 5);
        waysFault(" ".repeat(297) + "try", 2, 300);
    }

    private static void refusedWaysLeaveTheOldOnes() {
        MayBoats x = four(TWO, 1, 2, 3, 4);
        Checks.ways(x, "try;try;");
        c.fault("refused", x, Checks.ways(x, "try;rents;try;try;!"), 1, 18);
        c.is("the tape is empty then", x, x.ways(1), -1, 5);
        c.is("two TRIES", x, x.written(0), 2, 0);
        c.is("ways(0)", x, x.ways(0), 0, 0);
        c.is("no STEPS", x, x.written(0), 0, 0);
    }

    private static void thirtySteps() {
        String thirty = "try;".repeat(30);
        waysTaken(TWO, thirty, 30);
        waysFault(thirty + "try;", 6, 120);
        waysFault(thirty + "try", 6, 120);
        waysFault(thirty + "each;", 6, 120);
        waysFault(thirty + "end;", 2, 120);
        waysFault(thirty + "x;", 2, 120);
        waysFault(thirty + "!", 1, 120);
        waysTaken(TWO, "each;" + "try;".repeat(29) + "end;", 30);
        waysFault("each;" + "try;".repeat(29) + "end;wages;", 6, 125);
        waysTaken(TWO, "each;end;".repeat(30), 30);
        waysFault("each;end;".repeat(30) + "each;", 6, 270);
    }

    private static void beginningsWithinThreeOthers() {
        waysTaken(TWO, "each;least 1;each;end;end;end;", 3);
        waysTaken(TWO, "each;each;each;end;each;end;end;each;end;end;each;end;", 6);
        waysFault("each;each;each;each;end;end;end;end;", 7, 15);
        waysFault("each;each;each;least 1;", 7, 15);
        waysFault("least 1;least 1;least 1;least", 7, 24);
        waysFault("each;each;each;" + "try;".repeat(27) + "each;", 6, 123);
    }

    private static void streetsFrom0To3() {
        waysTaken(TWO, "streets 0 1 2 3;", 1);
        waysTaken(TWO, "streets 0003;", 1);
        waysFault("streets 4;", 4, 8);
        waysFault("streets 0 4;", 4, 10);
        waysFault("streets 9999;", 4, 8);
        waysFault("streets 00000;", 1, 8);
        waysFault("streets;", 2, 7);
        waysFault("streets 0 a;", 2, 10);
    }

    private static void stepsYearsFrom0To11() {
        for (String word : new String[] {"before", "after "}) {
            waysTaken(TWO, word + " 0 11;", 1);
            waysTaken(TWO, word + " 11 11;", 1);
            waysTaken(TWO, word + " 0 0;", 1);
            waysFault(word + " 12 12;", 4, 7);
            waysFault(word + " 0 12;", 4, 9);
            waysFault(word + " 1 0;", 4, 9);
            waysFault(word + " 11 10;", 4, 10);
            waysFault(word + " 12 x", 4, 7);
            waysFault(word + " 5;", 2, 8);
            waysFault(word + ";", 2, 6);
            waysFault(word + " 1 2 3;", 2, 11);
        }
    }

    private static void leastFrom0To9999() {
        waysTaken(TWO, "least 0;end;least 9999;end;", 2);
        waysFault("least 10000;end;", 1, 6);
        waysFault("least;end;", 2, 5);
        waysFault("least -1;end;", 2, 6);
        waysFault("least 1 2;end;", 2, 8);
    }

    private static void openBeginningsOfRefusedWays() {
        MayBoats x = Checks.of(TWO);
        for (int k = 0; k < 3; k++) {
            c.fault("refused", x, Checks.ways(x, "each;each;each;!"), 1, 15);
            c.fault("no beginning", x, Checks.ways(x, "end;"), 2, 0);
            c.fault("refused", x, Checks.ways(x, "each;each;each;!"), 1, 15);
            c.taken("taken", x, Checks.ways(x, "each;each;each;end;end;end;"), 3);
        }
    }

    private static void theNamesOfWays() {
        waysTaken(TWO, "beside a;beside b a;cut x;cut y x;", 4);
        waysFault("beside c;", 3, 7);
        waysFault("beside x;", 3, 7);
        waysFault("cut a;", 3, 4);
        waysFault("cut x z;", 3, 6);
        waysFault("beside a a;", 5, 9);
        waysFault("cut x y x;", 5, 8);
        waysFault("beside a b c a;", 3, 11);
        waysFault("beside;", 2, 6);
        waysFault("cut;", 2, 3);
        waysFault("cut 1;", 2, 4);
        waysFault("beside abcdefghi;", 2, 7);
        waysTaken(TWO, "beside a;beside a;", 2);
        waysTaken("town a;town b;town c;town d;town e;town f;kind g;kind h;kind i;kind j;kind k;kind m;",
                "beside f e d c b a;cut g h i j k m;", 2);
    }

    private static void theWordsOfWaysAreNoNames() {
        for (String word : WAYS_WORDS) {
            String land = "town " + word + ";kind k;";
            MayBoats x = Checks.of(land);
            c.is("a TOWN may be " + word, x, x.many(0), 1, 0);
            c.fault("beside " + word, x, Checks.ways(x, "beside " + word + ";"), 2, 7);
            c.fault("cut k " + word, x, Checks.ways(x, "cut k " + word + ";"), 2, 6);
        }
        for (String word : LAND_WORDS) {
            waysFault("beside " + word + ";", 2, 7);
            waysFault("cut x " + word + ";", 2, 6);
        }
        waysTaken("town or;town not;kind of;kind held;", "beside or not;cut of held;", 2);
    }

    private static void endsOfWays() {
        waysFault("end;", 2, 0);
        waysFault("each;end;end;", 2, 9);
        waysFault("each;", 2, 5);
        waysFault("each;try;  ", 2, 11);
        waysFault("least 5;each;end;", 2, 17);
        waysFault("each;end", 2, 8);
        waysFault("each;end end;", 2, 9);
        waysFault("each", 2, 4);
        waysFault("try;;", 2, 4);
        waysFault("try try;", 2, 4);
        waysFault("wages 1;", 2, 6);
        waysFault("rents a;", 2, 6);
        waysFault("try;town a;", 2, 4);
        waysFault("(", 2, 0);
        waysTaken(TWO, " \n ", 0);
    }

    // ---- promises 47 and 48

    /** KIND x goes 10, KIND y goes 30, both 20; b stays. */
    private static MayBoats kinds() {
        return Checks.of(TWO, Checks.row(0, 0, 0, 0, 10, -1), Checks.row(0, 6, 0, 0, 20, -1), Checks.row(0, 0, 1, 0, 10, -1),
                Checks.row(0, 6, 1, 0, 40, -1), Checks.row(1, 0, 0, 0, 10, -1), Checks.row(1, 6, 0, 0, 10, -1),
                Checks.row(1, 0, 1, 0, 10, -1), Checks.row(1, 6, 1, 0, 10, -1));
    }

    private static void wrote(MayBoats x, String ways, int tries, int steps, int left) {
        c.is("fed " + ways, x, Checks.ways(x, ways) >= 0 ? 1 : 0, 1, 0);
        c.is("47 " + ways, x, x.written(0), tries, 0);
        c.is("48 done " + ways, x, x.writ(1), steps, 0);
        c.is("48 left " + ways, x, x.writ(2), left, 0);
    }

    private static void farthest(MayBoats x, int which, long top, long bottom) {
        c.is("48 the farthest", x, x.writ(0), which, 0);
        c.fraction("48 the farthest", x, top, bottom);
    }

    private static void atMostNineTimes() {
        MayBoats x = kinds();
        wrote(x, "least 21;try;end;", 9, 10, 0);
        wrote(x, "least 20;try;end;", 1, 2, 0);
        wrote(x, "least 19;try;end;", 1, 2, 0);
        wrote(x, "least 9999;end;", 0, 1, 0);
        wrote(x, "try;least 20;try;end;", 1, 2, 0);
        wrote(x, "try;least 21;try;end;", 10, 11, 0);
    }

    private static void leastOfNought() {
        MayBoats x = kinds();
        wrote(x, "least 0;try;end;", 1, 2, 0);
        wrote(x, "least 0;wages;end;", 0, 10, 0);
        wrote(x, "try;least 0;try;end;", 1, 2, 0);
        wrote(x, "rents;least 0;try;end;", 0, 11, 0);
    }

    private static void leastOfAFraction() {
        // -37 and a half has a size of 37 or more, not of 38.
        MayBoats x = Checks.three();
        wrote(x, "least 37;try;end;", 1, 2, 0);
        wrote(x, "least 38;try;end;", 9, 10, 0);
    }

    private static void leastIsAskedAtItsEnd() {
        // The TRY of 30 comes first; the others of that round are done all the same.
        MayBoats x = kinds();
        wrote(x, "least 30;cut y;try;cut x;try;try;end;", 3, 6, 0);
        farthest(x, 0, 30, 1);
    }

    private static void eachKindOnce() {
        MayBoats x = kinds();
        wrote(x, "each;try;end;", 2, 3, 0);
        farthest(x, 1, 30, 1);
        wrote(x, "each;cut x y;try;end;try;", 3, 6, 0);
        farthest(x, 0, 20, 1);
        wrote(x, "cut y;each;end;try;", 1, 3, 0);
        farthest(x, 0, 30, 1);
        wrote(x, "each;each;try;end;try;end;", 6, 1 + 2 * (1 + 2 + 1), 0);
        farthest(x, 1, 30, 1);
        wrote(x, "each;rents;end;try;", 0, 4, 0);
        MayBoats y = Checks.of("town a;boat a 6;");
        wrote(y, "each;try;end;", 0, 1, 0);
        c.is("48 no TRY", y, y.writ(0), -1, 8);
    }

    private static void stepsByStreets() {
        // Of STREET k TOWN a goes by 10 times 2 to the k; b stays in all of them.
        MayBoats x = Checks.of(TWO);
        for (int street = 0; street < 4; street++) {
            Checks.sheet(x, 0, 0, 0, street, 0, -1);
            Checks.sheet(x, 0, 6, 0, street, 10 << street, -1);
            Checks.sheet(x, 1, 0, 0, street, 5, -1);
            Checks.sheet(x, 1, 6, 0, street, 5, -1);
        }
        String[] steps = {"0", "1", "2", "3", "0 1", "3 0", "1 2 3", "3 2 1 0", "2 2"};
        int[][] want = {{10, 1}, {20, 1}, {40, 1}, {80, 1}, {15, 1}, {45, 1}, {140, 3}, {75, 2}, {40, 1}};
        for (int k = 0; k < steps.length; k++) {
            wrote(x, "streets " + steps[k] + ";try;", 1, 2, 0);
            farthest(x, 0, want[k][0], want[k][1]);
        }
    }

    private static void stepsByYears() {
        MayBoats x = Checks.plain(TWO, Checks.row(0, 0, 10), Checks.row(0, 3, 20), Checks.row(0, 11, 50),
                Checks.row(1, 0, 5), Checks.row(1, 3, 5), Checks.row(1, 11, 5));
        wrote(x, "before 0 2;after 3 3;try;", 1, 3, 0);
        farthest(x, 0, 10, 1);
        wrote(x, "before 3 10;after 11 11;try;", 1, 3, 0);
        farthest(x, 0, 30, 1);
        wrote(x, "before 0 3;try;", 1, 2, 0);
        farthest(x, 0, 35, 1);
        wrote(x, "before 0 6;try;after 7 11;try;", 1, 4, 0);
        farthest(x, 0, 35, 1);
    }

    private static void writtenByABoatToTheLastTown() {
        MayBoats x = four("town a;town b;kind x;boat b 6;", 0, 7, 0, 9);
        wrote(x, "try;beside a;try;beside b;try;", 2, 5, 0);
        farthest(x, 0, 2, 1);
    }

    private static void theFirstWithTheGreatestSize() {
        MayBoats x = kinds();
        wrote(x, "try;cut y;try;before 6 11;after 0 5;try;", 3, 6, 0);
        farthest(x, 1, 30, 1);
        wrote(x, "cut y;before 6 11;after 0 5;try;before 0 5;after 6 11;try;", 2, 7, 0);
        farthest(x, 0, -30, 1);
        x.say(3, false, 10);
        x.say(1, false, 10);
        wrote(x, "try;try;", 2, 2, 0);
        farthest(x, 0, 0, 1);
    }

    private static void atMost200Steps() {
        MayBoats x = kinds();
        // 1 and nine times 1 and 9 times 2 and 3: 199.
        String most = "least 999;least 999;wages;wages;end;wages;wages;wages;end;";
        wrote(x, most, 0, 199, 0);
        wrote(x, most + "try;", 1, 200, 0);
        wrote(x, most + "wages;try;", 0, 200, 1);
        wrote(x, most + "each;try;end;", 0, 200, 1);
        wrote(x, most + "each;end;", 0, 200, 0);
        wrote(x, most + "least 0;end;", 0, 200, 0);
        wrote(x, most + "least 0;wages;end;", 0, 200, 1);
        wrote(x, most + "wages;each;end;", 0, 200, 1);
        wrote(x, "try;least 20;" + "wages;".repeat(20) + "end;" + most, 1, 200, 1);
    }

    private static void theSightComesBack() {
        MayBoats x = kinds();
        x.beside(2);
        x.cut(1, 9);
        x.years(0, 3, 6, 9);
        x.rents(true);
        Checks.ways(x, "wages;beside a;cut y;streets 2;before 1 2;after 3 4;least 9999;each;cut x;try;end;end;");
        x.written(0);
        long[] sight = {2, 1, 9, 0, 3, 6, 9, 1};
        for (int what = 0; what < 8; what++) {
            c.is("sight " + what, x, x.sight(what), sight[what], 0);
        }
    }

    private static void writOfNone() {
        MayBoats x = kinds();
        for (int what : new int[] {-1, 3, FAR, FAR_BELOW}) {
            c.is("5 ahead of 8", x, x.writ(what), -1, 5);
        }
        for (int what = 0; what < 3; what++) {
            c.is("there was none", x, x.writ(what), -1, 8);
        }
        x.written(1);
        c.is("there was none with STATUS 0", x, x.writ(1), -1, 8);
        x.mean(0, 0, 0);
        x.written(0);
        c.is("no TRY", x, x.writ(0), -1, 8);
        c.fraction("as it was", x, 10, 1);
        c.is("no STEP", x, x.writ(1), 0, 0);
        Checks.ways(x, "try;");
        x.written(0);
        c.is("how many STEPS", x, x.writ(1), 1, 0);
        c.fraction("as it was", x, 10, 1);
        farthest(x, 0, 20, 1);
        x.mean(0, 0, 0);
        Checks.land(x, "town a;");
        farthest(x, 0, 20, 1);
    }

    private static void namesAreNumbersInAnotherLand() {
        MayBoats x = Checks.of("town a;town b;town c;kind x;kind y;kind z;boat a 6;");
        Checks.ways(x, "beside c;try;beside b c;try;cut z;try;cut x z;try;each;try;end;");
        Checks.land(x, "town p;town q;kind k;boat p 6;");
        int[] wages = {1, 2, 3, 9};
        for (int i = 0; i < 4; i++) {
            Checks.sheet(x, i / 2, i % 2 * 6, 0, 0, wages[i], -1);
        }
        c.is("BESIDE q, KIND k; once for k", x, x.written(0), 3, 0);
        c.is("STEPS", x, x.writ(1), 10, 0);
        farthest(x, 0, -5, 1);
    }

    // ---- promise 49

    private static void lineFault(String text, int kind, int place) {
        MayBoats x = Checks.of("town a;town b;kind x;kind y;boat a 6;");
        c.fault("line of " + text, x, Checks.line(x, text), kind, place);
    }

    private static void lineTaken(String text, int claims) {
        MayBoats x = Checks.of(TWO);
        c.taken("line of " + text, x, Checks.line(x, text), claims);
    }

    private static void aLineOfAtMost300Bytes() {
        MayBoats x = Checks.of(TWO);
        c.is("1 of none", x, x.line(1), -1, 5);
        c.fault("0 of none", x, x.line(0), 2, 0);
        Checks.feed(x, " ".repeat(293) + "fell 1;" + " ".repeat(20));
        for (int n : new int[] {-1, 301, 320, 321, FAR, FAR_BELOW}) {
            c.is("line " + n, x, x.line(n), -1, 5);
        }
        c.taken("300", x, x.line(300), 1);
        c.is("the tape is empty then", x, x.line(1), -1, 5);
        lineFault(" ".repeat(300), 2, 300);
    }

    private static void aRefusedLineLeavesTheOldOne() {
        MayBoats x = four(TWO, 10, 0, 10, 10);
        c.fault("refused", x, Checks.line(x, "fell"), 2, 4);
        c.is("still none", x, x.said(0), -1, 8);
        Checks.line(x, "fell 10;");
        c.fault("refused", x, Checks.line(x, "rose 1 or rose 2;;"), 2, 17);
        c.is("the tape is empty then", x, x.line(1), -1, 5);
        c.is("the old one", x, x.said(0), 2, 0);
    }

    private static void nothingMoreBehindALine() {
        lineTaken("fell 1; \n", 1);
        lineFault("fell 1;;", 2, 7);
        lineFault("fell 1; fell 1;", 2, 8);
        lineFault("fell 1; )", 2, 8);
        lineFault("fell 1; !", 1, 8);
        lineFault("fell 1; 12345", 1, 8);
    }

    private static void whatCannotStandInALine() {
        lineFault("  ", 2, 2);
        lineFault(";", 2, 0);
        lineFault("1;", 2, 0);
        lineFault("x;", 2, 0);
        lineFault("fell x;", 2, 5);
        lineFault("fell 1", 2, 6);
        lineFault("fell 1 2;", 2, 7);
        lineFault("fell 1 x;", 2, 7);
        lineFault("fell 1 not fell 1;", 2, 7);
        lineFault("fell 1 and;", 2, 10);
        lineFault("fell 1 or", 2, 9);
        lineFault("and fell 1;", 2, 0);
        lineFault("not", 2, 3);
        lineFault("not and;", 2, 4);
        lineFault("(fell 1", 2, 7);
        lineFault("(fell 1;", 2, 7);
        lineFault("fell 1);", 2, 6);
        lineFault("()", 2, 1);
        lineFault("fell (1);", 2, 5);
        lineFault("least 1;", 2, 0);
    }

    private static void theNumbersOfALine() {
        lineTaken("fell 0 or rose 9999 or held 0009;", 3);
        lineTaken("fell 1 least 1 and fell 1 least 60;", 2);
        lineFault("fell 10000;", 1, 5);
        lineFault("fell 1 least 0;", 4, 13);
        lineFault("fell 1 least 61;", 4, 13);
        lineFault("fell 1 least 9999;", 4, 13);
        lineFault("fell 1 least 0", 4, 13);
        lineFault("fell 1 least 00001;", 1, 13);
        lineFault("fell 1 least;", 2, 12);
        lineFault("fell 1 least x;", 2, 13);
        lineFault("fell 1 least 1 least 1;", 2, 15);
        lineFault("fell 1 least 1 of x;", 2, 15);
    }

    private static void theNamesOfALine() {
        lineTaken("fell 1 of x or fell 1 of x y least 2;", 2);
        lineFault("fell 1 of;", 2, 9);
        lineFault("fell 1 of 1;", 2, 10);
        lineFault("fell 1 of least 2;", 2, 10);
        lineFault("fell 1 of z;", 3, 10);
        lineFault("fell 1 of a;", 3, 10);
        lineFault("fell 1 of x a x;", 3, 12);
        lineFault("fell 1 of x x;", 5, 12);
        lineFault("fell 1 of x y x;", 5, 14);
        lineFault("fell 1 of abcdefghi;", 2, 10);
        lineFault("fell 1 of x abcdefghi;", 2, 12);
        for (String word : LINE_WORDS) {
            MayBoats x = Checks.of("town a;kind " + word + ";");
            c.is("a KIND may be " + word, x, x.many(1), 1, 0);
            c.fault("of " + word, x, Checks.line(x, "fell 1 of " + word + ";"), 2, 10);
        }
        for (String word : LAND_WORDS) {
            lineFault("fell 1 of " + word + ";", 2, 10);
        }
        MayBoats y = Checks.of("town a;kind try;kind end;kind each;");
        c.taken("WAYS' words", y, Checks.line(y, "fell 1 of try end each;"), 1);
    }

    private static void twentyClaims() {
        String twenty = "fell 1 or ".repeat(20);
        lineTaken("fell 1 or ".repeat(19) + "fell 1;", 20);
        lineFault(twenty + "fell 1;", 6, 200);
        lineFault(twenty + "held", 6, 200);
        lineFault(twenty + ";", 2, 200);
        lineFault(twenty + "not rose 1;", 6, 204);
        lineFault(twenty + "(((((((rose 1;", 7, 206);
    }

    private static void aOneWithinSixOthers() {
        lineTaken("not not not not not fell 1;", 1);
        lineTaken("(((((fell 1)))));", 1);
        lineTaken("not(not(not fell 1 or not rose 1) and (((held 1))));", 3);
        lineFault("not not not not not not fell 1;", 7, 24);
        lineFault("((((((fell 1))))));", 7, 6);
        lineFault("not(not(not(fell 1)));", 7, 12);
        lineFault("not(not(not(;", 2, 12);
        lineFault("not(not(fell 1 and not(rose 1)));", 7, 23);
        lineFault("not not not not not not not fell 1;", 7, 24);
    }

    // ---- promise 50

    private static void saidIs(MayBoats x, String line, int want) {
        c.is("49 " + line, x, Checks.line(x, line) > 0 ? 1 : 0, 1, 0);
        c.is("50 " + line, x, x.said(0), want, 0);
    }

    private static void justAsMuch() {
        MayBoats fell = four(TWO, 10, 0, 10, 10);
        saidIs(fell, "fell 10;", 2);
        saidIs(fell, "fell 11;", 0);
        saidIs(fell, "held 10;", 2);
        saidIs(fell, "held 9;", 0);
        saidIs(fell, "rose 0;", 0);
        MayBoats rose = four(TWO, 0, 10, 10, 10);
        saidIs(rose, "rose 10;", 2);
        saidIs(rose, "rose 11;", 0);
        saidIs(rose, "held 10;", 2);
        saidIs(rose, "held 9;", 0);
        saidIs(rose, "fell 0;", 0);
        MayBoats held = four(TWO, 10, 10, 10, 10);
        saidIs(held, "fell 0;", 2);
        saidIs(held, "rose 0;", 2);
        saidIs(held, "held 0;", 2);
        saidIs(held, "fell 1;", 0);
        saidIs(held, "rose 1;", 0);
    }

    private static void asManySheetsAsLeast() {
        MayBoats x = four(TWO, 10, 0, 10, 10);
        saidIs(x, "fell 1 least 1;", 2);
        saidIs(x, "fell 1 least 2;", 1);
        for (int i = 0; i < 4; i++) {
            saidIs(x, "fell 1 least 2;", 1);
            Checks.sheet(x, i / 2, i % 2 * 6, 0, 0, i == 1 ? 0 : 10, -1);
        }
        saidIs(x, "fell 1 least 2;", 2);
        saidIs(x, "fell 1 least 3;", 1);
    }

    private static void unsaid() {
        MayBoats x = four(TWO, 10, 0, 10, 10);
        saidIs(x, "fell 1 of y;", 1);
        saidIs(x, "fell 1 of x y;", 2);
        x.cut(2, 15);
        saidIs(x, "fell 1;", 1);
        saidIs(x, "fell 1 of x;", 2);
        x.cut(3, 15);
        x.years(0, 6, 6, 11);
        saidIs(x, "fell 1;", 1);
        saidIs(x, "fell 1 of x;", 1);
        x.years(0, 5, 6, 11);
        x.beside(1);
        saidIs(x, "fell 1;", 1);
        x.beside(3);
        for (int i = 0; i < 4; i++) {
            int wage = x.look(i, 4);
            x.say(i, false, -1);
            saidIs(x, "fell 1;", 1);
            x.say(i, false, wage);
        }
        saidIs(x, "fell 1;", 2);
    }

    private static void allTables() {
        MayBoats x = four(TWO, 10, 0, 10, 10);
        String[] claims = {"rose 1", "rose 1 of y", "fell 1"};
        for (int a = 0; a < 3; a++) {
            saidIs(x, claims[a] + ";", a);
            saidIs(x, "not " + claims[a] + ";", 2 - a);
            saidIs(x, "not not " + claims[a] + ";", a);
            for (int b = 0; b < 3; b++) {
                saidIs(x, claims[a] + " and " + claims[b] + ";", Math.min(a, b));
                saidIs(x, claims[a] + " or " + claims[b] + ";", Math.max(a, b));
            }
        }
    }

    private static void twentyClaimsSaid() {
        // Each next one holds 1 more; the DIFFER is -10, so the first ten are not so.
        MayBoats x = four(TWO, 10, 0, 10, 10);
        StringBuilder ands = new StringBuilder("fell 0");
        StringBuilder ors = new StringBuilder("held 0");
        for (int k = 1; k < 20; k++) {
            ands.append(k < 19 ? " and fell 1" : " and held 9");
            ors.append(k < 19 ? " or held 0 of x" : " or held 10");
        }
        saidIs(x, ands + ";", 0);
        saidIs(x, ors + ";", 2);
        turnedIs(x, ors + ";", 0);
    }

    private static void aLineInAnotherLand() {
        MayBoats x = four(TWO, 10, 0, 10, 10);
        Checks.line(x, "fell 1 of y or rose 999 of x;");
        c.is("of x alone it is not so", x, x.said(0), 1, 0);
        Checks.land(x, "town p;town q;kind j;kind k;");
        c.is("no SHEETS", x, x.said(0), 1, 0);
        int[] wages = {10, 0, 10, 10};
        for (int i = 0; i < 4; i++) {
            Checks.sheet(x, i / 2, i % 2 * 6, 1, 0, wages[i], -1);
        }
        c.is("KINDS are numbers then", x, x.said(0), 2, 0);
        Checks.land(x, "town p;town q;kind j;");
        c.is("there is no such KIND", x, x.said(0), 1, 0);
    }

    // ---- promises 51 and 52

    private static void turnedIs(MayBoats x, String line, int... sheets) {
        Checks.line(x, line);
        if (sheets.length == 0) {
            c.is("51 " + line, x, x.turned(0), -1, 9);
            return;
        }
        c.is("51 " + line, x, x.turned(0), sheets.length, 0);
        for (int k = 0; k < sheets.length; k++) {
            c.is("52 " + line, x, x.turning(k), sheets[k], 0);
        }
        c.is("52 no more", x, x.turning(sheets.length), -1, 8);
    }

    private static void turnedByTheFirstOne() {
        MayBoats x = four(TWO, 10, 0, 10, 10);
        turnedIs(x, "fell 1;", 0);
        turnedIs(x, "rose 1;", 0);
        turnedIs(x, "not held 5;", 0);
        x.say(0, false, -1);
        turnedIs(x, "fell 1;");
        c.is("52 as it was", x, x.turning(0), 0, 0);
    }

    private static void turnedByNone() {
        MayBoats x = Checks.of(TWO);
        c.is("no LINE", x, x.turned(0), -1, 8);
        turnedIs(x, "fell 1;");
        c.is("52 none such", x, x.turning(0), -1, 8);
        Checks.sheet(x, 0, 0, 0, 0, 1, 1);
        turnedIs(x, "fell 1;");
        MayBoats y = four(TWO, 10, 0, 10, 10);
        turnedIs(y, "fell 1 or not fell 1 or held 9999 of y;", 0);
        y.rents(true);
        turnedIs(y, "held 9999;");
    }

    private static void turnedByTheFirstPair() {
        MayBoats x = Checks.of(TWO);
        int[] towns = {1, 0, 1, 0, 1, 0, 1, 0, 1, 0};
        int[] years = {0, 0, 6, 6, 0, 6, 6, 0, 0, 6};
        for (int i = 0; i < 10; i++) {
            Checks.sheet(x, towns[i], years[i], 0, 0, 5, -1);
        }
        // Just the own MEAN BEFORE is of two SHEETS, 1 and 7, and the others' AFTER, 2 and 6.
        turnedIs(x, "held 0;", 1, 7);
        x.say(7, true, 900);
        turnedIs(x, "held 0;", 1, 7);
        turnedIs(x, "held 0 least 2;", 1);
        x.say(1, false, -1);
        turnedIs(x, "held 0;", 7);
    }

    private static void turnedByTheLastPair() {
        MayBoats x = Checks.of(TWO);
        for (int i = 0; i < 60; i++) {
            int k = i < 58 ? i % 3 + 1 : 0;
            Checks.sheet(x, k / 2, k % 2 * 6, 0, 0, 5, -1);
        }
        turnedIs(x, "held 9999;", 58, 59);
        turnedIs(x, "held 9999 of y;");
        c.is("52 as it was", x, x.turning(1), 59, 0);
        turnedIs(x, "held 9999 of x least 2;", 58);
    }

    private static void turningOutside() {
        MayBoats x = four(TWO, 10, 0, 10, 10);
        for (int k : new int[] {-1, 0, 1, FAR, FAR_BELOW}) {
            c.is("none yet", x, x.turning(k), -1, 8);
        }
        Checks.line(x, "fell 1;");
        x.turned(0);
        for (int k : new int[] {-1, 1, 2, FAR, FAR_BELOW}) {
            c.is("none such", x, x.turning(k), -1, 8);
        }
        x.turned(2);
        Checks.land(x, "town a;");
        x.turned(0);
        c.is("refused ones leave it", x, x.turning(0), 0, 0);
    }

    private static void turnedLeavesTheSheets() {
        MayBoats x = four(TWO, 10, 0, 10, 10);
        x.say(0, true, 77);
        Checks.line(x, "fell 1;");
        x.turned(0);
        c.is("its WAGE", x, x.look(0, 4), 10, 0);
        c.is("its RENT", x, x.look(0, 5), 77, 0);
        c.is("the LINE", x, x.said(0), 2, 0);
    }

    // ---- promises 53 and 54

    private static void threeMarks() {
        MayBoats x = Checks.three();
        for (int k = 1; k <= 3; k++) {
            x.say(0, false, k);
            c.is("mark", x, x.mark(), k, 0);
        }
        x.say(0, false, 4);
        c.is("a fourth", x, x.mark(), -1, 7);
        c.is("a fourth", x, x.mark(), -1, 7);
        for (int k = 3; k >= 1; k--) {
            c.is("back", x, x.back(), k - 1, 0);
            c.is("as it was", x, x.look(0, 4), k, 0);
        }
        c.is("none", x, x.back(), -1, 8);
        c.is("nothing changed", x, x.look(0, 4), 1, 0);
    }

    private static void aMarkInPlaceOfOneThatIsGone() {
        MayBoats x = Checks.three();
        x.mark();
        x.say(0, false, 1);
        x.mark();
        x.back();
        x.say(0, false, 2);
        c.is("again", x, x.mark(), 2, 0);
        x.say(0, false, 3);
        x.back();
        c.is("the latest", x, x.look(0, 4), 2, 0);
        x.back();
        c.is("the first", x, x.look(0, 4), 100, 0);
    }

    private static void aMarkOfANewObject() {
        MayBoats x = new MayBoats();
        c.is("mark", x, x.mark(), 1, 0);
        Checks.land(x, Checks.LAND);
        Checks.sheet(x, 0, 0, 0, 0, 1, 1);
        Checks.line(x, "fell 1;");
        Checks.ways(x, "try;");
        x.rents(true);
        c.is("back", x, x.back(), 0, 0);
        for (int what = 0; what < 5; what++) {
            c.is("many " + what, x, x.many(what), 0, 0);
        }
        long[] sight = {0, 0, 15, 0, 5, 6, 11, 0};
        for (int what = 0; what < 8; what++) {
            c.is("sight " + what, x, x.sight(what), sight[what], 0);
        }
        Checks.land(x, "town a;boat a 1;");
        c.is("no LINE", x, x.said(0), -1, 8);
        x.written(0);
        c.is("no WAYS", x, x.writ(1), 0, 0);
    }

    private static void aMarkKeepsAllThatIsFull() {
        MayBoats x = Checks.of("town a;town b;town c;town d;town e;town f;kind g;kind h;kind i;kind j;kind k;kind m;"
                + "boat d 3;boat e 6;boat f 9;law n 1;law o 2;law p 3;law q 4*(street+draw)-hit;");
        for (int i = 0; i < 60; i++) {
            x.write(3, 0, i % 6);
            x.write(3, 1, i % 12);
            x.write(3, 2, i % 5);
            x.write(3, 3, i % 4);
            x.write(3, 4, i);
            x.write(3, 5, 999 - i);
            x.sheet(3);
        }
        x.mark();
        Checks.land(x, "town z;");
        x.back();
        c.is("BOAT", x, x.boat(2, 0), 5, 0);
        c.is("BOAT", x, x.boat(2, 1), 9, 0);
        c.is("LAW", x, x.tells(3, 5, 9, 0, 3, 20), 91, 0);
        c.is("LAW", x, x.tells(0, 5, 9, 0, 3, 20), 1, 0);
        c.is("SHEETS", x, x.many(4), 60, 0);
        c.is("the last one's WAGE", x, x.look(59, 4), 59, 0);
        c.is("the last one's RENT", x, x.look(59, 5), 940, 0);
        c.is("the last one's TOWN", x, x.look(59, 0), 5, 0);
        c.is("BESIDE", x, x.sight(0), 63, 0);
        c.taken("NAMES", x, Checks.ways(x, "beside f;cut m;"), 2);
    }

    private static void aMarkKeepsWays() {
        MayBoats x = kinds();
        wrote(x, "each;streets 0 1;before 0 4;after 5 6;try;end;least 21;cut x;try;end;", 2, 1 + 2 * 4 + 1, 0);
        x.mark();
        Checks.ways(x, "try;rents;wages;least 9999;least 9999;streets 3;before 7 9;after 10 10;end;end;try;");
        x.written(0);
        x.back();
        c.is("47 as it was", x, x.written(0), 2, 0);
        c.is("48 as it was", x, x.writ(1), 10, 0);
        farthest(x, 1, 30, 1);
    }

    private static void aMarkKeepsTheLine() {
        MayBoats x = four(TWO, 10, 0, 10, 10);
        String[] lines = {"not rose 1 of x and fell 10;", "fell 11;", "fell 1 least 2;", "fell 1 of y or fell 11;",
            "rose 1 or (held 9 or held 10) and not fell 99 of y;"};
        int[] want = {2, 0, 1, 1, 1};
        for (int k = 0; k < lines.length; k++) {
            for (String other : new String[] {"rose 0;", "fell 1 of y x least 60 or not held 5 of x;", "not fell 3;"}) {
                saidIs(x, lines[k], want[k]);
                x.mark();
                Checks.line(x, other);
                x.back();
                c.is("54 " + lines[k], x, x.said(0), want[k], 0);
            }
        }
    }

    private static void aWorldIsTakenBack() {
        MayBoats x = four(TWO + "law l draw;", 1, 2, 3, 4);
        x.mark();
        c.is("another WORLD", x, x.world(0, 0), 4, 0);
        x.back();
        for (int i = 0; i < 4; i++) {
            c.is("as it was", x, x.look(i, 4), i + 1, 0);
        }
    }

    public static void main(String[] args) {
        Checks.callAll(TextsEdgesTest.class);
        c.end("TextsEdgesTest");
    }
}
