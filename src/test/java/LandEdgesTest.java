/** The edges that section 1 of the document and promises 1 to 14 name, each with a test of its own. */
public final class LandEdgesTest {
    private static final Checks c = new Checks();
    private static final String[] LAND_WORDS = {"town", "kind", "boat", "law", "year", "street", "hit", "draw"};
    private static final String SIX_TOWNS = "town a;town b;town c;town d;town e;town f;";
    private static final String SIX_KINDS = "kind g;kind h;kind i;kind j;kind k;kind m;";
    private static final String FOUR_LAWS = "law n 1;law o 2;law p 3;law q 4;";
    private static final String THREE_BOATS = "boat a 0;boat b 11;boat c 5;";

    private static void fault(String text, int kind, int place) {
        MayBoats x = new MayBoats();
        c.fault("land of " + text, x, Checks.land(x, text), kind, place);
    }

    private static MayBoats taken(String text, int towns) {
        MayBoats x = new MayBoats();
        c.taken("land of " + text, x, Checks.land(x, text), towns);
        return x;
    }

    // ---- promises 1 to 4

    private static void newObjectHasNothing() {
        MayBoats x = new MayBoats();
        c.is("STATUS", x.status(), 0);
        c.fraction("a new object", x, 0, 1);
        c.is("no WAYS, no BOAT", x, x.written(0), -1, 2);
        c.is("no weave()", x, x.woven(0), -1, 8);
        c.is("no weave()", x, x.gap(0), 8);
        c.is("no written()", x, x.writ(0), -1, 8);
        c.is("no turned()", x, x.turning(0), -1, 8);
        c.is("no MARKS", x, x.back(), -1, 8);
        c.is("no LINE, but no TOWN ahead of that", x, x.said(0), -1, 2);
        c.is("no SHEETS", x, x.look(0, 0), -1, 2);
        c.is("no LAWS", x, x.world(0, 0), -1, 2);
        c.is("an empty set is no set with others", x, x.beside(0), 0);
        c.is("a set with others", x, x.beside(1), 2);
        c.is("an empty set is no set with others", x, x.cut(0, 15), 0);
        c.is("a set with others", x, x.cut(1, 15), 2);
    }

    private static void aLineNeedsNoLand() {
        MayBoats x = new MayBoats();
        c.taken("a LINE without KINDS", x, Checks.line(x, "fell 1;"), 1);
        c.fault("a KIND, and there is no LAND", x, Checks.line(x, "fell 1 of x;"), 3, 10);
        c.taken("WAYS without NAMES", x, Checks.ways(x, "try;"), 1);
        c.fault("a TOWN, and there is no LAND", x, Checks.ways(x, "beside a;"), 3, 7);
    }

    private static void someCallsHaveNoStatus() {
        MayBoats x = new MayBoats();
        for (int status = 0; status < 2; status++) {
            x.many(status == 0 ? 0 : 5);
            x.feed(1, 2, 3, 4, 5);
            x.fault(0);
            x.fault(9);
            x.top();
            x.bottom();
            c.is("status()", x.status(), status == 0 ? 0 : 5);
            c.is("status() once more", x.status(), status == 0 ? 0 : 5);
        }
        for (int k = 0; k < 40; k++) {
            x.feed(0, 0, 0, 0, 0);
        }
        c.is("status() behind a feed() with NONE", x.status(), 5);
    }

    // ---- promise 5

    private static void traysAre0To3() {
        MayBoats x = new MayBoats();
        for (int tray = 0; tray < 4; tray++) {
            c.is("tray " + tray, x, x.tray(tray, tray, 1), 0);
        }
        for (int tray : new int[] {-1, 4, Integer.MIN_VALUE, Integer.MAX_VALUE}) {
            c.is("tray " + tray, x, x.tray(tray, 0, 1), 1);
            c.is("write " + tray, x, x.write(tray, 0, 1), 1);
            c.is("read " + tray, x, x.read(tray, 0), -1, 1);
            c.is("sheet " + tray, x, x.sheet(tray), -1, 1);
            c.is("pour from " + tray, x, x.pour(tray, 0, 0, 0, 0), 1);
            c.is("pour to " + tray, x, x.pour(0, 0, tray, 0, 0), 1);
        }
    }

    private static void sortsAre0To3() {
        MayBoats x = new MayBoats();
        for (int sort : new int[] {-1, 4, Integer.MIN_VALUE, Integer.MAX_VALUE}) {
            c.is("sort " + sort, x, x.tray(0, sort, 1), 1);
            c.is("sort ahead of a length", x, x.tray(0, sort, 61), 1);
            c.is("sort ahead of a length", x, x.tray(0, sort, -1), 1);
        }
        c.is("still MISSING", x, x.read(0, 0), -1, 3);
    }

    private static void aTrayHasNoneTo60() {
        MayBoats x = new MayBoats();
        for (int many : new int[] {61, Integer.MAX_VALUE}) {
            c.is("too long " + many, x, x.tray(0, 0, many), 5);
        }
        for (int many : new int[] {-1, Integer.MIN_VALUE}) {
            c.is("below 0 " + many, x, x.tray(0, 0, many), 6);
        }
        c.is("none", x, x.tray(0, 0, 0), 0);
        c.is("it has no place", x, x.write(0, 0, 1), 4);
        c.is("one", x, x.tray(0, 0, 1), 0);
        c.is("its place", x, x.write(0, 0, 1), 0);
        c.is("no other", x, x.write(0, 1, 1), 4);
        c.is("sixty", x, x.tray(0, 0, 60), 0);
        c.is("the last place", x, x.write(0, 59, 1), 0);
        c.is("no other", x, x.write(0, 60, 1), 4);
    }

    private static void aTrayMadeAgainIsAll0() {
        MayBoats x = new MayBoats();
        x.tray(0, 3, 60);
        for (int place = 0; place < 60; place++) {
            x.write(0, place, -7);
        }
        x.tray(0, 0, 2);
        c.is("0", x, x.read(0, 0), 0, 0);
        c.is("0", x, x.read(0, 1), 0, 0);
        c.is("shorter", x, x.read(0, 2), -1, 4);
        x.tray(0, 3, 60);
        for (int place = 0; place < 60; place++) {
            c.is("0 at " + place, x, x.read(0, place), 0, 0);
        }
    }

    private static void aRefusedTrayIsAsItWas() {
        MayBoats x = new MayBoats();
        x.tray(0, 1, 3);
        x.write(0, 2, 1000);
        x.tray(0, 4, 1);
        x.tray(0, 0, 61);
        x.tray(0, 0, -1);
        c.is("its number", x, x.read(0, 2), 1000, 0);
        x.write(0, 2, 2000);
        c.is("its sort", x, x.read(0, 2), 2000, 0);
        c.is("its length", x, x.read(0, 3), -1, 4);
    }

    // ---- promises 6 and 7

    private static void cut(int sort, long... putAndGot) {
        MayBoats x = new MayBoats();
        x.tray(1, sort, 1);
        for (int i = 0; i < putAndGot.length; i += 2) {
            c.is("write " + putAndGot[i], x, x.write(1, 0, putAndGot[i]), 0);
            c.is("sort " + sort + " of " + putAndGot[i], x, x.read(1, 0), putAndGot[i + 1], 0);
        }
    }

    private static void numbersOf8Bits() {
        cut(0, 127, 127, 128, -128, -128, -128, -129, 127, 255, -1, 256, 0, -256, 0, Long.MAX_VALUE, -1, Long.MIN_VALUE, 0);
    }

    private static void numbersOf16Bits() {
        cut(1, 32767, 32767, 32768, -32768, -32768, -32768, -32769, 32767, 65535, -1, 65536, 0, Long.MAX_VALUE, -1,
                Long.MIN_VALUE, 0);
    }

    private static void numbersOf32Bits() {
        long two31 = 1L << 31;
        cut(2, two31 - 1, two31 - 1, two31, -two31, -two31, -two31, -two31 - 1, two31 - 1, 2 * two31 - 1, -1, 2 * two31, 0,
                Long.MAX_VALUE, -1, Long.MIN_VALUE, 0);
    }

    private static void numbersOf64Bits() {
        cut(3, Long.MAX_VALUE, Long.MAX_VALUE, Long.MIN_VALUE, Long.MIN_VALUE, 1L << 32, 1L << 32, -1, -1);
    }

    private static void placesJustOutside() {
        MayBoats x = new MayBoats();
        x.tray(2, 2, 5);
        for (int place : new int[] {-1, 5, 60, Integer.MIN_VALUE, Integer.MAX_VALUE}) {
            c.is("write at " + place, x, x.write(2, place, 1), 4);
            c.is("read at " + place, x, x.read(2, place), -1, 4);
        }
        c.is("the last place", x, x.read(2, 4), 0, 0);
    }

    private static void missingAheadOfPlace() {
        MayBoats x = new MayBoats();
        for (int tray = 0; tray < 4; tray++) {
            c.is("write", x, x.write(tray, -1, 1), 3);
            c.is("read", x, x.read(tray, 60), -1, 3);
        }
    }

    private static void statusTellsNoneFromMinusOne() {
        MayBoats x = new MayBoats();
        x.tray(0, 3, 1);
        x.write(0, 0, -1);
        c.is("-1 is there", x, x.read(0, 0), -1, 0);
        c.is("NONE", x, x.read(0, 1), -1, 4);
    }

    // ---- promise 8

    private static MayBoats poured() {
        MayBoats x = new MayBoats();
        x.tray(0, 1, 5);
        x.tray(1, 1, 3);
        x.tray(2, 2, 5);
        for (int i = 0; i < 5; i++) {
            x.write(0, i, i + 1);
        }
        return x;
    }

    private static void pourToTheLastPlaces() {
        MayBoats x = poured();
        c.is("the whole of one", x, x.pour(0, 2, 1, 0, 3), 0);
        c.is("its last", x, x.read(1, 2), 5, 0);
        c.is("one more than it has", x, x.pour(0, 0, 1, 0, 4), 4);
        c.is("one more than there are", x, x.pour(0, 3, 1, 0, 3), 4);
        c.is("just the last", x, x.pour(0, 4, 1, 2, 1), 0);
        c.is("just behind the last", x, x.pour(0, 5, 1, 2, 1), 4);
        c.is("just behind the last", x, x.pour(0, 4, 1, 3, 1), 4);
    }

    private static void pourWithFarNumbers() {
        MayBoats x = poured();
        int far = Integer.MAX_VALUE;
        c.is("from far", x, x.pour(0, far, 1, 0, 1), 4);
        c.is("to far", x, x.pour(0, 0, 1, far, 1), 4);
        c.is("far too many", x, x.pour(0, 1, 1, 1, far), 4);
        c.is("all of it far", x, x.pour(0, far, 1, far, far), 4);
        c.is("far below", x, x.pour(0, Integer.MIN_VALUE, 1, 0, 1), 4);
        c.is("far below", x, x.pour(0, 0, 1, Integer.MIN_VALUE, 0), 4);
        c.is("far below 0", x, x.pour(0, 0, 1, 0, Integer.MIN_VALUE), 6);
    }

    private static void pourAsksInItsOrder() {
        MayBoats x = poured();
        c.is("1 ahead of 3, 6, 4", x, x.pour(3, -1, 4, -1, -1), 1);
        c.is("3 ahead of 11, 6, 4", x, x.pour(0, -1, 3, -1, -1), 3);
        c.is("3 of either", x, x.pour(3, -1, 0, -1, -1), 3);
        c.is("11 ahead of 6, 4", x, x.pour(0, -1, 2, -1, -1), 11);
        c.is("6 ahead of 4", x, x.pour(0, -1, 1, -1, -1), 6);
        c.is("4", x, x.pour(0, -1, 1, -1, 0), 4);
    }

    private static void pourWithinOneTrayAsTheyWere() {
        MayBoats x = poured();
        c.is("up", x, x.pour(0, 0, 0, 2, 3), 0);
        long[] up = {1, 2, 1, 2, 3};
        for (int i = 0; i < 5; i++) {
            c.is("up, " + i, x, x.read(0, i), up[i], 0);
        }
        c.is("onto itself", x, x.pour(0, 0, 0, 0, 5), 0);
        c.is("down", x, x.pour(0, 1, 0, 0, 4), 0);
        long[] down = {2, 1, 2, 3, 3};
        for (int i = 0; i < 5; i++) {
            c.is("down, " + i, x, x.read(0, i), down[i], 0);
        }
    }

    private static void pourOfNone() {
        MayBoats x = poured();
        c.is("none", x, x.pour(0, 0, 1, 0, 0), 0);
        x.tray(3, 1, 0);
        c.is("none to a TRAY without places", x, x.pour(0, 0, 3, 0, 0), 0);
        c.is("one to a TRAY without places", x, x.pour(0, 0, 3, 0, 1), 4);
        c.is("nothing came", x, x.read(1, 0), 0, 0);
    }

    // ---- promise 9

    private static void theTapeHas600Bytes() {
        MayBoats x = new MayBoats();
        for (int k = 1; k <= 30; k++) {
            c.is("feed", x.feed(0x20202020, 0x20202020, 0x20202020, 0x20202020, 0x20202020), 20 * k);
        }
        c.is("one more", x.feed(0x21212121, 0x21212121, 0x21212121, 0x21212121, 0x21212121), -1);
        c.is("601 of them", x, x.land(601), -1, 5);
        c.is("600 of them", x, x.land(600), 0, 0);
        c.is("it is empty then", x.feed(0, 0, 0, 0, 0), 20);
    }

    private static void theHighestByteFirst() {
        MayBoats x = new MayBoats();
        // "town" "az; " and bytes above 127.
        x.feed(0x746f776e, 0x20617a3b, 0xff000000, 0, 0);
        c.fault("a byte of 255", x, x.land(9), 1, 8);
        x.feed(0x746f776e, 0x20617a3b, 0xff000000, 0, 0);
        c.taken("ahead of it", x, x.land(8), 1);
    }

    private static void eachByteAlone() {
        for (int b = 0; b < 256; b++) {
            MayBoats x = new MayBoats();
            x.feed(b << 24, 0, 0, 0, 0);
            boolean isToken = b >= 'a' && b <= 'z' || b >= '0' && b <= '9' || ";+-*/()".indexOf(b) >= 0;
            if (b == 10 || b == 32) {
                c.taken("a blank " + b, x, x.land(1), 0);
            } else {
                c.fault("byte " + b, x, x.land(1), isToken ? 2 : 1, 0);
            }
        }
    }

    // ---- promise 10

    private static void landOfTooFewOrTooMany() {
        MayBoats x = new MayBoats();
        c.is("1 of none", x, x.land(1), -1, 5);
        c.is("0 of none", x, x.land(0), 0, 0);
        x.feed(0x20202020, 0x20202020, 0x20202020, 0x20202020, 0x20202020);
        for (int n : new int[] {-1, 21, 601, Integer.MIN_VALUE, Integer.MAX_VALUE}) {
            c.is("land " + n, x, x.land(n), -1, 5);
        }
        c.is("the tape is as it was", x.feed(0, 0, 0, 0, 0), 40);
    }

    private static void aLandOf600Bytes() {
        String text = " ".repeat(593) + "town a;";
        taken(text, 1);
        fault(" ".repeat(594) + "town a", 2, 600);
        fault(" ".repeat(599) + "!", 1, 599);
    }

    private static void whatIsBehindTheFirstBytesIsGone() {
        MayBoats x = new MayBoats();
        Checks.feed(x, "town a; town b;");
        c.taken("just the first", x, x.land(7), 1);
        c.is("nothing is left", x, x.land(1), -1, 5);
        Checks.feed(x, "town a; !");
        c.taken("a byte that is not of it", x, x.land(8), 1);
        Checks.feed(x, "! town b;");
        c.fault("refused", x, x.land(1), 1, 0);
        c.is("nothing is left", x, x.land(1), -1, 5);
    }

    private static void anEmptyLandTakesTheOldOnesPlace() {
        MayBoats x = Checks.three();
        c.is("land(0)", x, x.land(0), 0, 0);
        for (int what = 0; what < 5; what++) {
            c.is("many " + what, x, x.many(what), 0, 0);
        }
        c.is("BESIDE", x, x.sight(0), 0, 0);
        c.is("CUT", x, x.sight(1), 0, 0);
        c.is("STREETS", x, x.sight(2), 15, 0);
    }

    private static void aRefusedLandLeavesTheOldOne() {
        MayBoats x = Checks.three();
        x.beside(2);
        c.fault("refused late", x, Checks.land(x, "town q; town r; kind s; boat q 1; law t 7; !"), 1, 43);
        c.is("TOWNS", x, x.many(0), 3, 0);
        c.is("KINDS", x, x.many(1), 2, 0);
        c.is("BOATS", x, x.many(2), 1, 0);
        c.is("LAWS", x, x.many(3), 1, 0);
        c.is("SHEETS", x, x.many(4), 6, 0);
        c.is("its BOAT", x, x.boat(0, 1), 6, 0);
        c.is("its LAW", x, x.tells(0, 0, 6, 1, 0, 0), 80, 0);
        c.is("its SIGHT", x, x.sight(0), 2, 0);
        c.taken("its NAMES", x, Checks.ways(x, "beside a b c; cut x y;"), 2);
    }

    private static void aTakenLandHasNoSheetsAndAFirstSight() {
        MayBoats x = Checks.three();
        x.beside(0);
        x.cut(0, 0);
        x.years(3, 4, 1, 2);
        x.rents(true);
        c.taken("the same once more", x, Checks.land(x, Checks.LAND), 3);
        long[] sight = {7, 3, 15, 0, 5, 6, 11, 0};
        for (int what = 0; what < 8; what++) {
            c.is("sight " + what, x, x.sight(what), sight[what], 0);
        }
        c.is("SHEETS", x, x.many(4), 0, 0);
        c.is("a SHEET", x, x.look(0, 0), -1, 2);
        c.is("the first number again", x, Checks.sheet(x, 0, 0, 0, 0, 1, 1), 0, 0);
    }

    // ---- TOKENS and FAULTS

    private static void tokensAsLongAsTheyGo() {
        fault("towna;", 2, 0);
        fault("town a1;", 2, 6);
        taken("law l1;", 0);
        taken("town a;boat a11;", 1);
        fault("town a;boat a12;", 4, 13);
        fault("town a;boat a1 1;", 2, 15);
        taken("law l2*(3+4)-5/draw;", 0);
        taken("\n\ntown\na\n;\n", 1);
    }

    private static void numbersOf1To4Digits() {
        taken("law l 0;law m 9999;law n 0000;law o 0009;", 0);
        fault("law l 10000;", 1, 6);
        fault("law l 00000;", 1, 6);
        fault("law l 12345678901234567890;", 1, 6);
        fault("law l 1+99999;", 1, 8);
        fault("law 12345 1;", 1, 4);
        fault("town a;boat a 00001;", 1, 14);
        fault("12345", 1, 0);
        fault("town a 12345;", 1, 7);
    }

    private static void namesOf1To8Letters() {
        taken("town abcdefgh;kind abcdefgi;law abcdefgj 1;boat abcdefgh 3;town a;", 2);
        fault("town abcdefghi;", 2, 5);
        fault("kind abcdefghi;", 2, 5);
        fault("law abcdefghi 1;", 2, 4);
        fault("town abcdefgh;boat abcdefghi 1;", 2, 19);
        fault("town " + "z".repeat(300) + ";", 2, 5);
        fault("abcdefghi", 2, 0);
        fault("law l abcdefghi;", 2, 6);
    }

    private static void theWordsOfALandAreNoNames() {
        for (String word : LAND_WORDS) {
            fault("town " + word + ";", 2, 5);
            fault("kind " + word + ";", 2, 5);
            fault("law " + word + " 1;", 2, 4);
            fault("town a;boat " + word + " 1;", 2, 12);
        }
    }

    private static void otherWordsAreNames() {
        taken("town beside;town least;kind or;kind end;law try 1;boat least 3;", 2);
        taken("town towns;town tow;kind kinds;kind kin;law hits 1;law drawn 1;", 2);
    }

    private static void variablesAreSixOfTheWords() {
        MayBoats x = taken("town a;kind b;boat a 0;law l town+kind+year+street+hit+draw;", 1);
        c.is("all six", x, x.tells(0, 0, 2, 0, 3, 40), 46, 0);
        fault("law l boat;", 2, 6);
        fault("law l law;", 2, 6);
        fault("town a;law l a;", 2, 13);
    }

    private static void whatCannotStandThere() {
        fault(";", 2, 0);
        fault("town a;;", 2, 7);
        fault("year", 2, 0);
        fault("town", 2, 4);
        fault("town   ", 2, 7);
        fault("town a b", 2, 7);
        fault("boat", 2, 4);
        fault("town a;boat a", 2, 13);
        fault("town a;boat a;", 2, 13);
        fault("town a;boat a 1 1", 2, 16);
        fault("town a;boat a 1", 2, 15);
        fault("law", 2, 3);
        fault("law l", 2, 5);
        fault("law l ;", 2, 6);
        fault("law l 1", 2, 7);
        fault("law l 1 town", 2, 8);
        fault("law l +1;", 2, 6);
        fault("law l 1++1;", 2, 8);
        fault("law l 1*/1;", 2, 8);
        fault("law l 1/", 2, 8);
        fault("law l (1", 2, 8);
        fault("law l (1;", 2, 8);
        fault("law l (1+);", 2, 9);
        fault("law l (1));", 2, 9);
        fault("law l )1;", 2, 6);
    }

    private static void aNameThatOneOfTheseIsAlready() {
        String[] parts = {"town a;", "kind a;", "law a 1;"};
        for (String first : parts) {
            for (String second : parts) {
                fault(first + second, 3, first.length() + second.indexOf(' ') + 1);
            }
        }
        fault("town a;town a", 3, 12);
        fault("town a;town a!", 3, 12);
    }

    private static void aBoatToNoTownToldAhead() {
        fault("boat a 1;town a;", 3, 5);
        fault("town a;boat b 1;", 3, 12);
        fault("kind a;boat a 1;", 3, 12);
        fault("law a 1;boat a 1;", 3, 13);
        fault("boat a", 3, 5);
    }

    private static void aYearIs0To11() {
        MayBoats x = taken("town a;town b;boat a 0;boat b 0011;", 2);
        c.is("the first YEAR", x, x.boat(0, 1), 0, 0);
        c.is("the last YEAR", x, x.boat(1, 1), 11, 0);
        fault("town a;boat a 12;", 4, 14);
        fault("town a;boat a 9999;", 4, 14);
        fault("town a;boat a 12!", 4, 14);
    }

    private static void aSecondBoatToATown() {
        fault("town a;boat a 1;boat a 2;", 5, 21);
        fault("town a;boat a 1;boat a", 5, 21);
        fault("town a;town b;boat a 1;boat b 1;boat a 1;", 5, 37);
    }

    private static void oneTooMany() {
        taken(SIX_TOWNS + SIX_KINDS + FOUR_LAWS + THREE_BOATS, 6);
        fault(SIX_TOWNS + "town", 6, 42);
        fault(SIX_TOWNS + "town a;", 6, 42);
        fault(SIX_KINDS + "kind z;", 6, 42);
        fault(FOUR_LAWS + "law z 1;", 6, 32);
        fault(SIX_TOWNS + THREE_BOATS + "boat d 1;", 6, 42 + 28);
        fault(SIX_TOWNS + THREE_BOATS + "boat a 12;", 6, 42 + 28);
    }

    private static void bracketsWithinSixOthers() {
        taken("law l ((((((1))))));law m ((((((1))))))+((((((2))))));", 0);
        fault("law l (((((((1)))))));", 7, 12);
        fault("law l (((((((", 7, 12);
        fault("law l ((((((1+(2)))))));", 7, 14);
        fault("law l (1)*(((((1+((2)))))));", 7, 18);
    }

    private static void theFirstAlongTheText() {
        fault("town a;town a;!", 3, 12);
        fault("town a;!town a;", 1, 7);
        fault("town a;boat a 12;town a;", 4, 14);
        fault("law l 1", 2, 7);
        fault("law l 1 !", 1, 8);
        fault("law l 1 99999", 1, 8);
    }

    // ---- promise 11

    private static void faultTellsOfTheLatest() {
        MayBoats x = new MayBoats();
        c.is("ahead of any", x.fault(0), -1);
        c.is("ahead of any", x.fault(1), -1);
        x.land(1);
        c.is("behind 5", x.fault(0), -1);
        c.fault("refused", x, Checks.land(x, "town a;!"), 1, 7);
        x.land(1);
        x.ways(1);
        x.line(1);
        c.is("behind 5 it stays", x.fault(0), 1);
        c.is("behind 5 it stays", x.fault(1), 7);
        c.taken("taken", x, Checks.land(x, "town a;"), 1);
        c.fault("of ways()", x, Checks.ways(x, "tri;"), 2, 0);
        c.fault("of line()", x, Checks.line(x, "fell;"), 2, 4);
        c.taken("of ways()", x, Checks.ways(x, "try;"), 1);
        c.fault("of line()", x, Checks.line(x, ""), 2, 0);
        c.taken("of line()", x, Checks.line(x, "fell 1;"), 1);
        for (int what : new int[] {-1, 2, Integer.MIN_VALUE, Integer.MAX_VALUE}) {
            c.is("fault " + what, x.fault(what), -1);
        }
    }

    // ---- promises 12 to 14

    private static void whatOthersOfManyAndBoat() {
        MayBoats x = Checks.three();
        for (int what : new int[] {-1, 5, Integer.MIN_VALUE, Integer.MAX_VALUE}) {
            c.is("many " + what, x, x.many(what), -1, 5);
        }
        for (int what : new int[] {-1, 2, Integer.MIN_VALUE, Integer.MAX_VALUE}) {
            c.is("boat 0, " + what, x, x.boat(0, what), -1, 5);
        }
        for (int boat : new int[] {-1, 1, Integer.MIN_VALUE, Integer.MAX_VALUE}) {
            c.is("boat " + boat, x, x.boat(boat, 0), -1, 2);
            c.is("2 ahead of 5", x, x.boat(boat, 2), -1, 2);
        }
    }

    private static void tellsOfNoneSuch() {
        MayBoats x = Checks.of(Checks.LAND);
        c.is("the last of all", x, x.tells(0, 2, 11, 1, 3, 99), 110, 0);
        int[][] none = {{-1, 0, 0, 0, 0, 0}, {1, 0, 0, 0, 0, 0}, {0, -1, 0, 0, 0, 0}, {0, 3, 0, 0, 0, 0},
            {0, 0, 0, -1, 0, 0}, {0, 0, 0, 2, 0, 0}, {1, 0, 12, 0, 4, 100}, {0, 3, -1, 0, 0, 0}, {0, 0, 0, 2, -1, 0}};
        for (int[] a : none) {
            c.is("no such", x, x.tells(a[0], a[1], a[2], a[3], a[4], a[5]), -1, 2);
        }
        int[][] wrong = {{0, 0, -1, 0, 0, 0}, {0, 0, 12, 0, 0, 0}, {0, 0, 0, 0, -1, 0}, {0, 0, 0, 0, 4, 0},
            {0, 0, 0, 0, 0, -1}, {0, 0, 0, 0, 0, 100}};
        for (int[] a : wrong) {
            c.is("can't be", x, x.tells(a[0], a[1], a[2], a[3], a[4], a[5]), -1, 5);
        }
    }

    private static void told(String law, int want) {
        MayBoats x = Checks.of("town a;kind k;law l " + law + ";");
        c.is("tells by " + law, x, x.tells(0, 0, 0, 0, 0, 0), want, 0);
    }

    private static void cutTo0And999() {
        told("0", 0);
        told("999", 999);
        told("1000", 999);
        told("0-1", 0);
        told("1000-1", 999);
        told("1-1000", 0);
    }

    private static void byNoughtItIsNought() {
        told("7/0+5", 5);
        told("0/0+5", 5);
        told("7/(3-3)*2+1", 1);
        told("7/(1/2)+8", 8);
    }

    private static void towardsNought() {
        told("100+(0-7)/2", 97);
        told("100+7/(0-2)", 97);
        told("100+(0-7)/(0-2)", 103);
        told("100+(0-1)/2", 100);
    }

    private static void roundOnBy64Bits() {
        // 8192 is 2 to the 13th, 2048 to the 11th: together to the 63rd, which is the least number there is.
        String least = "8192*8192*8192*8192*2048";
        told(least, 0);
        told(least + "-1", 999);
        told("(" + least + ")/(0-1)", 0);
        told("(" + least + ")*2+7", 7);
        told("(" + least + "-1+1)/9999/9999/9999/9999+1000", 78);
        told("8192*8192*8192*8192*1024*2-1-1", 999);
    }

    private static void fromTheLeft() {
        told("10-3-2", 5);
        told("100/5/2", 10);
        told("100/5*2", 40);
        told("7*3/2", 10);
        told("7/2*3", 9);
        told("1+2*3-4/2", 5);
        told("10-(3-2)", 9);
    }

    private static void theLawsOfALaterLand() {
        MayBoats x = new MayBoats();
        String[] laws = {"law l 1;law m 2;", "law l 3+4;law m 5;", "law l 6;law m 7*8;", "law l 9;"};
        int[][] want = {{1, 2}, {7, 5}, {6, 56}, {9, -1}};
        for (int k = 0; k < 4; k++) {
            c.taken("LAND " + k, x, Checks.land(x, "town a;kind k;" + laws[k]), 1);
            c.is("its first LAW", x.tells(0, 0, 0, 0, 0, 0), want[k][0]);
            c.is("its second LAW", x.tells(1, 0, 0, 0, 0, 0), want[k][1]);
            c.is("refused", x, Checks.land(x, "law z 1+2+3!"), -1, 10);
            c.is("its first LAW stays", x.tells(0, 0, 0, 0, 0, 0), want[k][0]);
        }
    }

    private static void aLawAsLongAsCanBe() {
        String text = "kind k;town aa;law l1" + "+1".repeat(289);
        MayBoats x = taken(text + ";", 1);
        c.is("290 times 1", x, x.tells(0, 0, 0, 0, 0, 0), 290, 0);
        fault(text + "+", 2, 600);
        fault(text + ")", 2, 599);
        fault(text + "!", 1, 599);
    }

    private static void hitInThatYearOrAhead() {
        MayBoats x = Checks.of("town a;town b;town c;kind k;boat a 0;boat b 11;law l hit;");
        c.is("in the first YEAR", x, x.tells(0, 0, 0, 0, 0, 0), 1, 0);
        c.is("in the last", x, x.tells(0, 0, 11, 0, 0, 0), 1, 0);
        c.is("one YEAR too early", x, x.tells(0, 1, 10, 0, 0, 0), 0, 0);
        c.is("in that YEAR", x, x.tells(0, 1, 11, 0, 0, 0), 1, 0);
        c.is("no BOAT", x, x.tells(0, 2, 11, 0, 0, 0), 0, 0);
    }

    public static void main(String[] args) {
        Checks.callAll(LandEdgesTest.class);
        c.end("LandEdgesTest");
    }
}
