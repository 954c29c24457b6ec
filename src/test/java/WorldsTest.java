/** Promises 43 to 45: WORLDS, SPANS, ODDS. The draws of SEED 77 are 3, 50, 95, 69, 3; of 78 they are 4, 38, 49, 92. */
public final class WorldsTest {
    private static final Checks c = new Checks();
    private static final String LAND = "town a; town b; kind x; boat a 6; law l ";

    /** Own BEFORE, own AFTER, the other's BEFORE, the other's AFTER. */
    private static MayBoats four(String laws, int... wages) {
        MayBoats x = Checks.of(LAND + laws);
        for (int i = 0; i < 4; i++) {
            Checks.sheet(x, i / 2, i % 2 == 0 ? 0 : 6, 0, 0, wages[i], 5);
        }
        return x;
    }

    private static void world() {
        MayBoats x = four("draw;", 3, 7, 7, 7);
        c.is("43 one is as it was", x, x.world(0, 77), 3, 0);
        int[] draws = {3, 50, 95, 69};
        for (int i = 0; i < 4; i++) {
            c.is("43 draw", x, x.look(i, 4), draws[i], 0);
            c.is("43 RENT", x, x.look(i, 5), 5, 0);
        }
        c.is("43 the same again", x, x.world(0, 77), 0, 0);
        x.say(1, false, -1);
        c.is("43 who would not say has a draw, too", x, x.world(0, 78), 3, 0);
        c.is("43 it would not say", x, x.look(1, 4), -1, 8);
        c.is("43 the third draw", x, x.look(2, 4), 49, 0);
        c.is("43 no LAW ahead", x, x.world(1, -1), -1, 2);
        c.is("43 SEED", x, x.world(0, -1), -1, 5);
        c.is("43 SEED", x, x.world(0, 10000), -1, 5);
        c.is("43 the last SEED", x, x.world(0, 9999), 3, 0);
        MayBoats y = four("1000 * hit + 500 - 600 * town;", 500, 500, 500, 500);
        c.is("43 cut, by hit and town", y, y.world(0, 0), 3, 0);
        int[] wages = {500, 999, 0, 0};
        for (int i = 0; i < 4; i++) {
            c.is("43 cut", y, y.look(i, 4), wages[i], 0);
        }
        MayBoats z = Checks.of("town a; kind x; kind y; law l 100 * year + 10 * kind + street;");
        Checks.sheet(z, 0, 7, 1, 3, 0, 0);
        z.world(0, 5);
        c.is("43 by year, kind, street", z, z.look(0, 4), 713, 0);
    }

    private static void span() {
        MayBoats x = four("draw;", 1, 2, 3, 5);
        c.tells("44 the FRACTION ahead", x, x.differ(0), -1, 1);
        c.is("44 one WORLD", x, x.span(0, 0, 77, 1, 0), 73, 0);
        c.is("44 one WORLD", x, x.span(0, 0, 77, 1, 1), 73, 0);
        c.is("44 the least of two", x, x.span(0, 0, 77, 2, 0), -9, 0);
        c.is("44 the greatest of two", x, x.span(0, 0, 77, 2, 1), 73, 0);
        c.is("44 how many", x, x.span(0, 0, 77, 50, 2), 50, 0);
        c.is("44 SEEDS behind the last one", x, x.span(0, 0, 9999, 2, 2), 2, 0);
        c.fraction("44 nothing is changed", x, -1, 1);
        c.is("44 nothing is changed", x, x.look(3, 4), 5, 0);
        c.is("44 no BOAT", x, x.span(1, 0, -1, 1, 0), -1, 2);
        c.is("44 no LAW", x, x.span(0, 1, 0, 0, 0), -1, 2);
        c.is("44 SEED", x, x.span(0, 0, -1, 1, 0), -1, 5);
        c.is("44 SEED", x, x.span(0, 0, 10000, 1, 0), -1, 5);
        c.is("44 so many", x, x.span(0, 0, 0, 0, 0), -1, 5);
        c.is("44 so many", x, x.span(0, 0, 0, 51, 0), -1, 5);
        c.is("44 what", x, x.span(0, 0, 0, 1, 3), -1, 5);
        c.is("44 what", x, x.span(0, 0, 0, 1, -1), -1, 5);
        x.rents(true);
        x.say(1, true, 9);
        c.is("44 RENTS are as they were", x, x.span(0, 0, 77, 5, 0), 4, 0);
        c.is("44 RENTS are as they were", x, x.span(0, 0, 77, 5, 1), 4, 0);
        x.say(1, true, -1);
        c.is("44 none", x, x.span(0, 0, 77, 5, 0), -1, 8);
        c.is("44 none", x, x.span(0, 0, 77, 5, 1), -1, 8);
        c.is("44 how many", x, x.span(0, 0, 77, 5, 2), 0, 0);
    }

    private static void rounded(String law, int want) {
        MayBoats x = Checks.of(LAND + law);
        int[][] rows = {{0, 0}, {0, 6}, {0, 6}, {1, 0}, {1, 6}};
        for (int[] r : rows) {
            Checks.sheet(x, r[0], r[1], 0, 0, 0, 0);
        }
        c.is("44 rounded down", x, x.span(0, 0, 77, 1, 0), want, 0);
        c.is("44 rounded down", x, x.span(0, 0, 77, 1, 1), want, 0);
    }

    private static void odds() {
        MayBoats x = four("200 - 50 * hit; law m 200; law n 240 - 40 * hit;", 0, 0, 25, 50);
        c.tells("45 the true one", x, x.differ(0), -25, 1);
        c.is("45 none of any LAW", x, x.odds(0, 0, 1, 10, 14), 8);
        c.tells("45 of n alone", x, x.odds(0, 2, 1, 10, 15), 1, 1);
        c.tells("45 none of l", x, x.odds(0, 0, 1, 10, 15), 0, 1);
        c.tells("45 of all three", x, x.odds(0, 1, 1, 10, 25), 1, 3);
        c.is("45 no BOAT", x, x.odds(1, 0, -1, 1, 0), 2);
        c.is("45 no LAW", x, x.odds(0, 3, 0, 0, 0), 2);
        c.is("45 SEED", x, x.odds(0, 0, 10000, 1, 0), 5);
        c.is("45 SEED", x, x.odds(0, 0, -1, 1, 0), 5);
        c.is("45 so many", x, x.odds(0, 0, 0, 0, 0), 5);
        c.is("45 so many", x, x.odds(0, 0, 0, 51, 0), 5);
        c.is("45 number", x, x.odds(0, 0, 0, 1, -1), 5);
        c.is("45 number", x, x.odds(0, 0, 0, 1, 1000), 5);
        x.say(0, false, -1);
        c.is("45 no DIFFER", x, x.odds(0, 0, 0, 1, 999), 8);
        // By SEED 77 the DIFFER is 73, by 78 it is -9.
        MayBoats y = four("draw; law m 0;", 0, 73, 0, 0);
        c.tells("45 one of two", y, y.odds(0, 0, 77, 2, 0), 1, 1);
        c.tells("45 one of l, two of m", y, y.odds(0, 0, 77, 2, 73), 1, 3);
        c.tells("45 two of l, two of m", y, y.odds(0, 1, 77, 2, 82), 1, 2);
        c.is("45 nothing is changed", y, y.look(0, 4), 0, 0);
    }

    public static void main(String[] args) {
        world();
        span();
        rounded("draw;", 135);
        rounded("100 - draw;", -136);
        odds();
        c.end("WorldsTest");
    }
}
