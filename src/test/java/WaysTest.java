/** Promises 46 to 48: WAYS, and what comes of them. */
public final class WaysTest {
    private static final Checks c = new Checks();

    private static void ways() {
        MayBoats x = Checks.three();
        Checks.feed(x, "try;");
        c.is("46 below 0", x, x.ways(-1), -1, 5);
        c.is("46 more than there is", x, x.ways(21), -1, 5);
        c.is("46 the tape stays behind 5", x, x.ways(4), 1, 0);
        c.is("46 the tape is empty then", x, x.ways(1), -1, 5);
        String blanks = " ".repeat(300);
        Checks.feed(x, blanks + "    ");
        c.is("46 above 300", x, x.ways(301), -1, 5);
        c.is("46 no STEPS", x, x.ways(300), 0, 0);
        c.is("46 nothing is done", x, x.written(0), 0, 0);
        c.is("46 taken", x, Checks.ways(x, "beside a c;cut y x;streets 0 3 3;before 0 11;after 2 2;wages;rents;try;"), 8, 0);
        c.is("46 no FAULT", x.fault(0), 0);
        c.is("46 STREETS in any order", x, Checks.ways(x, "streets 3 0 2 1;"), 1, 0);
        c.is("46 end is no STEP", x, Checks.ways(x, "each; least 0003; each; try; end; end; end; try; try;"), 6, 0);
        c.is("46 beginnings side by side", x,
                Checks.ways(x, "each;end;each;end;each;end;each;end;least 9999;each;each;end;end;end;"), 7, 0);
        Checks.ways(x, "try; try;");
        c.is("46 a FAULT", x, Checks.ways(x, "try; try; tri;"), -1, 10);
        c.is("46 the tape is empty then", x, x.ways(1), -1, 5);
        c.is("46 the old ones stay", x, x.written(0), 2, 0);
    }

    private static void faultIs(String text, int kind, int place) {
        MayBoats x = Checks.of("town a; town b; kind x; kind end; boat a 1;");
        c.is("46 ways of " + text, x, Checks.ways(x, text), -1, 10);
        c.is("46 FAULT of " + text, x.fault(0), kind);
        c.is("46 place in " + text, x.fault(1), place);
    }

    private static void faults() {
        faultIs("try, ", 1, 3);
        faultIs("least 12345;", 1, 6);
        faultIs("try", 2, 3);
        faultIs("try a;", 2, 4);
        faultIs("town a;", 2, 0);
        faultIs("12;", 2, 0);
        faultIs(";", 2, 0);
        faultIs("try;;", 2, 4);
        faultIs("beside;", 2, 6);
        faultIs("beside a", 2, 8);
        faultIs("beside 1;", 2, 7);
        faultIs("beside a try;", 2, 9);
        faultIs("beside town;", 2, 7);
        faultIs("beside draw;", 2, 7);
        faultIs("beside a least;", 2, 9);
        faultIs("beside abcdefghi;", 2, 7);
        faultIs("cut end;", 2, 4);
        faultIs("cut x +;", 2, 6);
        faultIs("streets;", 2, 7);
        faultIs("streets a;", 2, 8);
        faultIs("before 1;", 2, 8);
        faultIs("after 1 2 3;", 2, 10);
        faultIs("wages 1;", 2, 6);
        faultIs("end;", 2, 0);
        faultIs("each; end; end;", 2, 11);
        faultIs("each; try;", 2, 10);
        faultIs("each; try; ", 2, 11);
        faultIs("each; end", 2, 9);
        faultIs("each 3;", 2, 5);
        faultIs("least;", 2, 5);
        faultIs("beside x;", 3, 7);
        faultIs("cut a;", 3, 4);
        faultIs("beside a q a;", 3, 9);
        faultIs("streets 4;", 4, 8);
        faultIs("streets 0 1 2 3 4;", 4, 16);
        faultIs("before 12 1;", 4, 7);
        faultIs("before 0 12;", 4, 9);
        faultIs("after 5 4;", 4, 8);
        faultIs("beside a b a;", 5, 11);
        faultIs("cut x x;", 5, 6);
        String thirty = "try;".repeat(30);
        faultIs(thirty + "try;", 6, 120);
        faultIs(thirty + "end;", 2, 120);
        faultIs(thirty + "tri;", 2, 120);
        faultIs("each;each;each;" + "try;".repeat(27) + "each;", 6, 123);
        faultIs("each;least 1;each;least 2;", 7, 18);
        faultIs("each;least 1;each;end;end;each;each;each;", 7, 36);
        MayBoats x = Checks.of("town a;");
        c.is("46 thirty STEPS", x, Checks.ways(x, thirty), 30, 0);
    }

    private static void written() {
        MayBoats x = Checks.three();
        c.is("48 there was none", x, x.writ(1), -1, 8);
        c.is("48 what ahead of that", x, x.writ(3), -1, 5);
        c.is("48 what", x, x.writ(-1), -1, 5);
        c.is("47 no BOAT", x, x.written(1), -1, 2);
        c.is("48 still none", x, x.writ(2), -1, 8);
        c.is("47 no WAYS", x, x.written(0), 0, 0);
        c.is("48 no TRY", x, x.writ(0), -1, 8);
        c.is("48 no STEPS", x, x.writ(1), 0, 0);
        c.is("48 none left to be done", x, x.writ(2), 0, 0);
        // BESIDE b -35, BESIDE c -40, both -37 and a half; of STREET 0 and of KIND x BESIDE b: -35.
        Checks.ways(x, "beside b; try; beside c; try; beside b c; try; streets 0; try; cut y; try; beside b; cut x; try;");
        c.is("47 written", x, x.written(0), 5, 0);
        c.is("48 the farthest", x, x.writ(0), 1, 0);
        c.fraction("48 its DIFFER", x, -40, 1);
        c.is("48 STEPS done", x, x.writ(1), 13, 0);
        c.is("48 none left", x, x.writ(2), 0, 0);
        long[] sight = {7, 3, 15, 0, 5, 6, 11, 0};
        for (int what = 0; what < 8; what++) {
            c.is("47 the SIGHT comes back", x, x.sight(what), sight[what], 0);
        }
        x.beside(2);
        Checks.ways(x, "try; before 0 0; after 7 11; try; before 6 11; after 0 5; try; rents; try; wages; try;");
        c.is("47 from the SIGHT as it is", x, x.written(0), 4, 0);
        c.is("48 the first with the greatest size", x, x.writ(0), 0, 0);
        c.fraction("48 its DIFFER", x, -35, 1);
        c.is("47 written by no BOAT changes nothing", x, x.written(1), -1, 2);
        c.is("48 STEPS done", x, x.writ(1), 11, 0);
    }

    private static void eachAndLeast() {
        MayBoats x = Checks.of("town a; town b; kind x; kind y; boat a 6;");
        int[][] rows = {{0, 0, 0, 10}, {0, 6, 0, 20}, {1, 0, 0, 10}, {1, 6, 0, 10}, {0, 0, 1, 10}, {0, 6, 1, 40},
            {1, 0, 1, 10}, {1, 6, 1, 10}};
        for (int[] r : rows) {
            Checks.sheet(x, r[0], r[1], r[2], 0, r[3], -1);
        }
        Checks.ways(x, "each; try; cut x y; try; end; try;");
        c.is("47 once for each KIND", x, x.written(0), 5, 0);
        c.is("48 STEPS done", x, x.writ(1), 8, 0);
        c.is("48 KIND y alone", x, x.writ(0), 2, 0);
        c.fraction("48 KIND y alone", x, 30, 1);
        x.cut(1, 15);
        Checks.ways(x, "each; end; try;");
        c.is("47 the CUT behind", x, x.written(0), 1, 0);
        x.writ(0);
        c.fraction("47 is as it was ahead", x, 10, 1);
        Checks.ways(x, "least 10; try; end; least 11; try; end; least 0; try; end;");
        c.is("47 as long as none has a size so great", x, x.written(0), 10, 0);
        c.is("48 STEPS done", x, x.writ(1), 13, 0);
        Checks.ways(x, "least 11; cut y; try; end;");
        c.is("47 it has one", x, x.written(0), 1, 0);
        c.is("48 STEPS done", x, x.writ(1), 3, 0);
        Checks.ways(x, "least 0; rents; try; end;");
        c.is("47 no TRY so far", x, x.written(0), 0, 0);
        c.is("48 nine times", x, x.writ(1), 19, 0);
        c.is("48 no TRY", x, x.writ(0), -1, 8);
        Checks.ways(x, "least 99; end; each; end;");
        c.is("47 nothing inside", x, x.written(0), 0, 0);
        c.is("48 two STEPS", x, x.writ(1), 2, 0);
    }

    private static void twoHundred() {
        MayBoats x = Checks.three();
        // 1, and nine times 1 + 9 * 2 + 3: 199.
        String most = "least 9999; least 9999; try; wages; end; try; try; try; end; ";
        Checks.ways(x, most + "try;");
        c.is("47 two hundred", x, x.written(0), 9 * 12 + 1, 0);
        c.is("48 STEPS done", x, x.writ(1), 200, 0);
        c.is("48 none left", x, x.writ(2), 0, 0);
        Checks.ways(x, most + "try; rents;");
        c.is("47 one more", x, x.written(0), 9 * 12 + 1, 0);
        c.is("48 STEPS done", x, x.writ(1), 200, 0);
        c.is("48 one left", x, x.writ(2), 1, 0);
        Checks.ways(x, most + "each; end;");
        x.written(0);
        c.is("48 nothing left inside", x, x.writ(2), 0, 0);
        Checks.ways(x, most + "each; try; end;");
        x.written(0);
        c.is("48 one left inside", x, x.writ(2), 1, 0);
        c.is("48 STEPS done", x, x.writ(1), 200, 0);
        Checks.ways(x, "rents; each; least 9999; least 9999; try; streets 3; end; end; end;");
        x.written(0);
        c.is("47 the SIGHT comes back", x, x.sight(1), 3, 0);
        c.is("47 the SIGHT comes back", x, x.sight(2), 15, 0);
        c.is("47 the SIGHT comes back", x, x.sight(7), 0, 0);
        c.is("48 left inside three", x, x.writ(2), 1, 0);
    }

    private static void anotherLand() {
        MayBoats x = Checks.three();
        Checks.ways(x, "beside b c; cut y; try; beside a b c; cut x y; each; try; end;");
        Checks.land(x, "town p; town q; kind k; boat p 6;");
        Checks.sheet(x, 0, 0, 0, 0, 10, -1);
        Checks.sheet(x, 0, 6, 0, 0, 30, -1);
        Checks.sheet(x, 1, 0, 0, 0, 10, -1);
        Checks.sheet(x, 1, 6, 0, 0, 15, -1);
        c.is("47 NAMES are numbers then", x, x.written(0), 1, 0);
        c.is("48 STEPS done", x, x.writ(1), 7, 0);
        x.writ(0);
        c.fraction("48 its DIFFER", x, 15, 1);
    }

    public static void main(String[] args) {
        ways();
        faults();
        written();
        eachAndLeast();
        twoHundred();
        anotherLand();
        c.end("WaysTest");
    }
}
