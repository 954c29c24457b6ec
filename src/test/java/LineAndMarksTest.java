/** Promises 49 to 54: the LINE, what it is, what turns it, MARKS. */
public final class LineAndMarksTest {
    private static final Checks c = new Checks();

    private static void line() {
        MayBoats x = Checks.three();
        c.is("50 no LINE", x, x.said(0), -1, 8);
        c.is("51 no LINE", x, x.turned(0), -1, 8);
        c.is("50 no TOWN ahead", x, x.said(3), -1, 2);
        c.is("51 no TOWN ahead", x, x.turned(-1), -1, 2);
        Checks.feed(x, "fell 1;");
        c.is("49 below 0", x, x.line(-1), -1, 5);
        c.is("49 more than there is", x, x.line(21), -1, 5);
        c.is("49 the tape stays behind 5", x, x.line(7), 1, 0);
        c.is("49 the tape is empty then", x, x.line(1), -1, 5);
        Checks.feed(x, "fell 1;" + " ".repeat(300));
        c.is("49 above 300", x, x.line(301), -1, 5);
        c.is("49 300 of them", x, x.line(300), 1, 0);
        c.is("49 no FAULT", x.fault(0), 0);
        c.is("49 no place", x.fault(1), -1);
        String twenty = "held 1 or ".repeat(19) + "held 1;";
        c.is("49 twenty CLAIMS", x, Checks.line(x, twenty), 20, 0);
        c.is("49 five others", x, Checks.line(x, "not(not(not fell 1));"), 1, 0);
        c.is("49 five others, side by side", x, Checks.line(x, "((((( fell 1 )))))and(((((rose 2)))));"), 2, 0);
        c.is("49 all of it", x, Checks.line(x, "not fell 9999 of y x least 60 and (rose 0 or held 5 least 1);"), 3, 0);
        Checks.line(x, "fell 1;");
        c.is("49 a FAULT", x, Checks.line(x, "rose 1"), -1, 10);
        c.is("49 the tape is empty then", x, x.line(1), -1, 5);
        c.is("49 the old one stays", x, x.said(0), 2, 0);
    }

    private static void faultIs(String text, int kind, int place) {
        MayBoats x = Checks.of("town a; kind x; kind y; kind least;");
        c.is("49 line of " + text, x, Checks.line(x, text), -1, 10);
        c.is("49 FAULT of " + text, x.fault(0), kind);
        c.is("49 place in " + text, x.fault(1), place);
    }

    private static void faults() {
        faultIs("fell 1, ", 1, 6);
        faultIs("fell 12345;", 1, 5);
        faultIs("fell 1; !", 1, 8);
        faultIs("", 2, 0);
        faultIs("   ", 2, 3);
        faultIs(";", 2, 0);
        faultIs("fell;", 2, 4);
        faultIs("fell 1", 2, 6);
        faultIs("fell 1 \n", 2, 8);
        faultIs("fell 1;;", 2, 7);
        faultIs("fell 1; fell 1;", 2, 8);
        faultIs("fell a;", 2, 5);
        faultIs("town 1;", 2, 0);
        faultIs("fall 1;", 2, 0);
        faultIs("fell 1 rose 1;", 2, 7);
        faultIs("fell 1 and;", 2, 10);
        faultIs("fell 1 or or;", 2, 10);
        faultIs("not;", 2, 3);
        faultIs("(fell 1;", 2, 7);
        faultIs("fell 1);", 2, 6);
        faultIs("();", 2, 1);
        faultIs("fell 1 of;", 2, 9);
        faultIs("fell 1 of 3;", 2, 10);
        faultIs("fell 1 of least 3;", 2, 10);
        faultIs("fell 1 of town;", 2, 10);
        faultIs("fell 1 of draw;", 2, 10);
        faultIs("fell 1 of abcdefghi;", 2, 10);
        faultIs("fell 1 of x fell 2;", 2, 12);
        faultIs("fell 1 of x of y;", 2, 12);
        faultIs("fell 1 least;", 2, 12);
        faultIs("fell 1 least 2 of x;", 2, 15);
        faultIs("fell 1 of a;", 3, 10);
        faultIs("fell 1 of x try;", 3, 12);
        faultIs("fell 1 least 0;", 4, 13);
        faultIs("fell 1 least 61;", 4, 13);
        faultIs("fell 1 of x y x;", 5, 14);
        String twenty = "held 1 or ".repeat(20);
        faultIs(twenty + "held 1;", 6, 200);
        faultIs(twenty + "of 1;", 2, 200);
        faultIs("held 1 or ".repeat(20) + "not not not not not not held 1;", 6, 224);
        faultIs("not not not not not not fell 1;", 7, 24);
        faultIs("((((((fell 1))))));", 7, 6);
        faultIs("((((((", 2, 6);
        faultIs("(((((( ;", 2, 7);
        faultIs("((((((( ", 7, 6);
        faultIs("not(not(not(not 1", 7, 12);
        faultIs("not(not(not(1", 2, 12);
        faultIs("fell 1 and not(not(not(not", 7, 23);
    }

    private static void saidIs(String line, int want) {
        MayBoats x = Checks.three();
        c.is("49 " + line, x, Checks.line(x, line) >= 1 ? 1 : 0, 1, 0);
        c.is("50 " + line, x, x.said(0), want, 0);
    }

    /** TOWN a's DIFFER is -37 and a half; of KIND y it has none. */
    private static void said() {
        saidIs("fell 37;", 2);
        saidIs("fell 38;", 0);
        saidIs("fell 0;", 2);
        saidIs("rose 0;", 0);
        saidIs("held 38;", 2);
        saidIs("held 37;", 0);
        saidIs("held 37 of y;", 1);
        saidIs("held 9999 least 2;", 1);
        saidIs("fell 35 of x;", 2);
        saidIs("fell 36 of x;", 0);
        saidIs("fell 36 of y x;", 2);
        saidIs("not fell 37;", 0);
        saidIs("not rose 0;", 2);
        saidIs("not held 1 of y;", 1);
        saidIs("not not fell 37;", 2);
        saidIs("fell 37 and held 1 of y;", 1);
        saidIs("fell 38 and held 1 of y;", 0);
        saidIs("fell 37 or held 1 of y;", 2);
        saidIs("fell 38 or held 1 of y;", 1);
        saidIs("fell 37 or fell 38 and fell 38;", 2);
        saidIs("(fell 37 or fell 38) and fell 38;", 0);
        saidIs("not fell 37 or fell 37;", 2);
        saidIs("not (fell 37 or fell 37);", 0);
        saidIs("fell 37 and fell 37 and rose 1;", 0);
        MayBoats x = Checks.three();
        Checks.line(x, "rose 15;");
        c.is("50 just as much", x, x.said(1), 2, 0);
        Checks.line(x, "held 15;");
        c.is("50 just as much", x, x.said(1), 2, 0);
        Checks.line(x, "held 14;");
        c.is("50 of another TOWN", x, x.said(1), 0, 0);
        c.is("50 no TOWN", x, x.said(3), -1, 2);
        x.cut(1, 15);
        Checks.line(x, "fell 35;");
        c.is("50 the SIGHT's CUT", x, x.said(0), 2, 0);
        Checks.line(x, "fell 36 of x y;");
        c.is("50 in place of the SIGHT's", x, x.said(0), 2, 0);
        x.years(0, 6, 6, 11);
        c.is("50 a YEAR of both", x, x.said(0), 1, 0);
    }

    private static void turned() {
        MayBoats x = Checks.three();
        c.is("52 none yet", x, x.turning(0), -1, 8);
        Checks.line(x, "fell 37;");
        c.is("51 one of them", x, x.turned(0), 1, 0);
        c.is("52 the first", x, x.turning(0), 0, 0);
        c.is("52 no more", x, x.turning(1), -1, 8);
        c.is("52 below 0", x, x.turning(-1), -1, 8);
        c.is("51 it still says", x, x.look(0, 4), 100, 0);
        c.is("51 and its RENT", x, x.look(0, 5), 10, 0);
        Checks.line(x, "fell 37 of y;");
        c.is("51 UNSAID as it is", x, x.turned(0), -1, 9);
        c.is("52 as it was", x, x.turning(0), 0, 0);
        c.is("51 no TOWN", x, x.turned(3), -1, 2);
        MayBoats y = Checks.of("town a; town b; kind x; boat a 6;");
        int[][] rows = {{1, 0, 10}, {1, 0, 10}, {0, 0, 10}, {0, 0, 10}, {0, 6, 20}, {0, 6, 20}, {0, 6, 20}, {1, 6, 10},
            {1, 6, 10}, {1, 6, 10}};
        for (int[] r : rows) {
            Checks.sheet(y, r[0], r[1], 0, 0, r[2], -1);
        }
        Checks.line(y, "rose 5;");
        c.is("51 two of them", y, y.turned(0), 2, 0);
        c.is("52 the lesser ahead", y, y.turning(0), 0, 0);
        c.is("52 then the other", y, y.turning(1), 1, 0);
        c.is("52 no more", y, y.turning(2), -1, 8);
        y.say(0, false, 0);
        Checks.line(y, "rose 15;");
        c.is("51 not as much as it is", y, y.said(0), 0, 0);
        c.is("51 no one makes it so", y, y.turned(0), 2, 0);
        c.is("52 UNSAID without both", y, y.turning(1), 1, 0);
        Checks.sheet(y, 1, 0, 0, 0, 10, -1);
        Checks.sheet(y, 0, 0, 0, 0, 10, -1);
        y.say(0, false, 10);
        Checks.line(y, "rose 1;");
        c.is("51 neither one nor two", y, y.turned(0), -1, 9);
        c.is("52 as it was", y, y.turning(1), 1, 0);
        Checks.line(y, "rose 1 least 3;");
        c.is("51 one is enough for least", y, y.turned(0), 1, 0);
        c.is("52 the first", y, y.turning(0), 0, 0);
    }

    private static void marks() {
        MayBoats x = Checks.three();
        Checks.ways(x, "try; try;");
        Checks.line(x, "fell 37;");
        x.beside(6);
        c.is("53 mark", x, x.mark(), 1, 0);
        c.is("53 mark", x, x.mark(), 2, 0);
        x.say(0, false, 1);
        x.cut(1, 7);
        c.is("53 mark", x, x.mark(), 3, 0);
        c.is("53 one too many", x, x.mark(), -1, 7);
        x.tray(0, 0, 1);
        x.write(0, 0, 5);
        Checks.land(x, "town q;");
        Checks.ways(x, "");
        Checks.line(x, "rose 5;");
        x.mean(0, 0, 0);
        c.is("54 back", x, x.back(), 2, 0);
        c.is("54 the LAND", x, x.many(0), 3, 0);
        c.is("54 LAWS", x, x.tells(0, 0, 6, 1, 0, 0), 80, 0);
        c.is("54 BOATS", x, x.boat(0, 1), 6, 0);
        c.is("54 SHEETS", x, x.many(4), 6, 0);
        c.is("54 as they were", x, x.look(0, 4), 1, 0);
        c.is("54 the SIGHT", x, x.sight(0), 6, 0);
        c.is("54 the CUT", x, x.sight(1), 1, 0);
        c.is("54 WAYS", x, x.written(0), 2, 0);
        c.is("54 the LINE", x, x.said(0), 0, 0);
        c.is("54 a TRAY stays", x, x.read(0, 0), 5, 0);
        c.is("54 back", x, x.back(), 1, 0);
        c.is("54 as they were", x, x.look(0, 4), 100, 0);
        c.is("54 the CUT", x, x.sight(1), 3, 0);
        c.is("54 NAMES", x, Checks.ways(x, "beside c; cut y;"), 2, 0);
        c.is("54 back", x, x.back(), 0, 0);
        c.is("54 WAYS", x, x.written(0), 2, 0);
        c.is("54 none", x, x.back(), -1, 8);
        c.is("54 nothing changed", x, x.many(4), 6, 0);
        c.is("53 again", x, x.mark(), 1, 0);
        x.say(0, false, 2);
        x.back();
        c.is("54 again", x, x.look(0, 4), 100, 0);
        c.is("54 it is gone", x, x.back(), -1, 8);
    }

    private static void whatStays() {
        MayBoats x = Checks.three();
        x.mark();
        x.mark();
        Checks.line(x, "fell 37;");
        x.turned(0);
        Checks.sheet(x, 2, 0, 0, 0, 50, -1);
        x.years(0, 0, 6, 6);
        x.weave(0, 4);
        Checks.ways(x, "try;");
        x.written(0);
        Checks.feed(x, "town b;");
        x.back();
        c.is("54 no LINE", x, x.said(0), -1, 8);
        c.is("54 what turned() found stays", x, x.turning(0), 0, 0);
        c.is("54 what weave() found stays", x, x.woven(1), 4, 0);
        c.is("54 what written() found stays", x, x.writ(1), 1, 0);
        c.is("54 no WAYS", x, x.written(0), 0, 0);
        c.is("54 the tape stays", x, x.land(7), 1, 0);
        c.is("54 MARKS stay behind another LAND", x, x.back(), 0, 0);
        c.is("54 the LAND", x, x.many(0), 3, 0);
    }

    public static void main(String[] args) {
        line();
        faults();
        said();
        turned();
        marks();
        whatStays();
        c.end("LineAndMarksTest");
    }
}
