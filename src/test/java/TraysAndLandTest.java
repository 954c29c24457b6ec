/** Promises 1 to 14: a new object, the FRACTION, TRAYS, the tape, the LAND. */
public final class TraysAndLandTest {
    private static final Checks c = new Checks();

    private static void newObject() {
        MayBoats x = new MayBoats();
        c.is("1 status", x.status(), 0);
        c.fraction("1 a new object", x, 0, 1);
        for (int what = 0; what < 5; what++) {
            c.is("1 many", x, x.many(what), 0, 0);
        }
        long[] sight = {0, 0, 15, 0, 5, 6, 11, 0};
        for (int what = 0; what < 8; what++) {
            c.is("1 sight " + what, x, x.sight(what), sight[what], 0);
        }
        for (int tray = 0; tray < 4; tray++) {
            c.is("1 read", x, x.read(tray, 0), -1, 3);
        }
        c.is("1 fault", x.fault(0), -1);
        c.is("1 fault", x.fault(1), -1);
        c.is("1 land(1) of an empty tape", x, x.land(1), -1, 5);
        c.is("1 back", x, x.back(), -1, 8);
        c.is("1 writ", x, x.writ(1), -1, 8);
        c.is("1 turning", x, x.turning(0), -1, 8);
        c.is("1 feed", x.feed(0, 0, 0, 0, 0), 20);
        MayBoats y = Checks.of("town a; boat a 0;");
        c.is("1 no LINE", y, y.said(0), -1, 8);
        c.is("1 no WAYS", y, y.written(0), 0, 0);
        c.is("1 NONE", MayBoats.NONE, -1);
    }

    private static void statusAndFraction() {
        MayBoats x = Checks.three();
        x.many(9);
        x.feed(0, 0, 0, 0, 0);
        x.fault(0);
        x.fault(7);
        x.top();
        x.bottom();
        c.is("2 status stays", x.status(), 5);
        x.many(0);
        c.is("2 status of a later call", x.status(), 0);
        c.tells("3, 4 a whole number", x, x.mean(0, 0, 5), 100, 1);
        c.is("3, 4 refused", x, x.mean(0, 1, 5), 8);
        c.fraction("3, 4 a refused call", x, 100, 1);
        c.tells("3, 4 below 0", x, x.differ(0), -75, 2);
        x.rents(true);
        c.tells("3, 4 nought", x, x.differ(0), 0, 1);
        x.rents(false);
        c.tells("3, 4 no common divisor", x, x.mean(0, 0, 11), 85, 1);
        x.counts(0, 0, 11);
        c.fraction("3, 4 a call that tells none", x, 85, 1);
    }

    private static void trays() {
        MayBoats x = new MayBoats();
        c.is("5 tray -1", x, x.tray(-1, 0, 1), 1);
        c.is("5 tray 4", x, x.tray(4, 0, 1), 1);
        c.is("5 sort -1", x, x.tray(0, -1, 1), 1);
        c.is("5 sort 4", x, x.tray(0, 4, 61), 1);
        c.is("5 too long", x, x.tray(0, 0, 61), 5);
        c.is("5 below 0", x, x.tray(0, 0, -1), 6);
        c.is("5 far below 0", x, x.tray(0, 0, Integer.MIN_VALUE), 6);
        c.is("5 still missing", x, x.read(0, 0), -1, 3);
        c.is("5 empty", x, x.tray(0, 0, 0), 0);
        c.is("5 empty has no place", x, x.read(0, 0), -1, 4);
        c.is("5 sixty", x, x.tray(0, 3, 60), 0);
        c.is("5 nought", x, x.read(0, 59), 0, 0);
        c.is("5 sixty has no more", x, x.read(0, 60), -1, 4);
        x.write(0, 59, 7);
        x.tray(0, 3, 60);
        c.is("5 nought again", x, x.read(0, 59), 0, 0);
    }

    private static void writeAndRead() {
        MayBoats x = new MayBoats();
        long[] put = {200, 40000, 1L << 31, Long.MIN_VALUE};
        long[] got = {-56, -25536, -(1L << 31), Long.MIN_VALUE};
        for (int sort = 0; sort < 4; sort++) {
            x.tray(sort, sort, 2);
            c.is("6 write", x, x.write(sort, 1, put[sort]), 0);
            c.is("7 read", x, x.read(sort, 1), got[sort], 0);
            c.is("7 read", x, x.read(sort, 0), 0, 0);
            x.write(sort, 1, 127);
            c.is("7 read", x, x.read(sort, 1), 127, 0);
        }
        x.write(2, 0, -1);
        c.is("7 -1 is a number", x, x.read(2, 0), -1, 0);
        MayBoats y = new MayBoats();
        c.is("6 no tray", y, y.write(4, 0, 1), 1);
        c.is("6 missing", y, y.write(3, 9, 1), 3);
        y.tray(3, 0, 2);
        c.is("6 no place", y, y.write(3, 2, 1), 4);
        c.is("6 no place", y, y.write(3, -1, 1), 4);
        c.is("7 no tray", y, y.read(-1, 0), -1, 1);
        c.is("7 missing", y, y.read(0, -5), -1, 3);
        c.is("7 no place", y, y.read(3, Integer.MAX_VALUE), -1, 4);
    }

    private static String row(MayBoats x, int tray, int many) {
        StringBuilder b = new StringBuilder();
        for (int i = 0; i < many; i++) {
            b.append(x.read(tray, i));
        }
        return b.toString();
    }

    private static void pour() {
        MayBoats x = new MayBoats();
        x.tray(0, 1, 5);
        x.tray(1, 1, 3);
        x.tray(2, 2, 5);
        for (int i = 0; i < 5; i++) {
            x.write(0, i, i + 1);
        }
        c.is("8 pour", x, x.pour(0, 3, 1, 1, 2), 0);
        c.is("8 poured", row(x, 1, 3).equals("045"), true);
        c.is("8 onto itself, up", x, x.pour(0, 0, 0, 1, 4), 0);
        c.is("8 as they were", row(x, 0, 5).equals("11234"), true);
        c.is("8 onto itself, down", x, x.pour(0, 1, 0, 0, 4), 0);
        c.is("8 as they were", row(x, 0, 5).equals("12344"), true);
        c.is("8 none", x, x.pour(0, 5, 1, 3, 0), 0);
        c.is("8 no tray ahead of missing", x, x.pour(3, 0, 4, 0, 1), 1);
        c.is("8 no tray", x, x.pour(-1, 0, 0, 0, 1), 1);
        c.is("8 missing ahead of unlike", x, x.pour(0, 0, 3, 0, -1), 3);
        c.is("8 missing", x, x.pour(3, 0, 0, 0, 1), 3);
        c.is("8 unlike ahead of below 0", x, x.pour(0, 0, 2, 0, -1), 11);
        c.is("8 below 0 ahead of place", x, x.pour(0, -1, 1, 0, -1), 6);
        c.is("8 from a place before", x, x.pour(0, -1, 1, 0, 1), 4);
        c.is("8 to a place before", x, x.pour(0, 0, 1, -1, 1), 4);
        c.is("8 too few", x, x.pour(0, 4, 1, 0, 2), 4);
        c.is("8 too few there", x, x.pour(0, 0, 1, 2, 2), 4);
        c.is("8 far away", x, x.pour(0, Integer.MAX_VALUE, 1, 0, Integer.MAX_VALUE), 4);
        c.is("8 behind the last", x, x.pour(0, 6, 1, 0, 0), 4);
        c.is("8 nothing changed", row(x, 0, 5).equals("12344") && row(x, 1, 3).equals("045"), true);
    }

    private static void feed() {
        MayBoats x = new MayBoats();
        for (int k = 1; k <= 30; k++) {
            c.is("9 feed", x.feed(0x746f776e, 0x20200a20, 0x613b0a20, 0x20202020, 0x20202020), 20 * k);
        }
        c.is("9 feed more than 600", x.feed(0, 0, 0, 0, 0), -1);
        c.is("9 the highest byte first", x, x.land(10), 1, 0);
        c.is("9 feed behind an emptied tape", x.feed(0, 0, 0, 0, 0), 20);
    }

    private static void land() {
        MayBoats x = new MayBoats();
        Checks.feed(x, "town a;");
        c.is("10 below 0", x, x.land(-1), -1, 5);
        c.is("10 more than there is", x, x.land(21), -1, 5);
        c.is("10 what is on the tape stays behind 5", x, x.land(7), 1, 0);
        c.is("10 the tape is empty then", x, x.land(1), -1, 5);
        c.is("10 an empty LAND", x, x.land(0), 0, 0);
        c.is("10 no TOWNS then", x, x.many(0), 0, 0);
        x = Checks.three();
        x.beside(1);
        x.cut(1, 3);
        x.years(1, 2, 3, 4);
        x.rents(true);
        c.is("10 a FAULT", x, Checks.land(x, "town a; town a;"), -1, 10);
        c.is("10 the tape is empty then", x, x.land(1), -1, 5);
        c.is("10 the old one stays", x, x.many(0), 3, 0);
        c.is("10 its SHEETS stay", x, x.many(4), 6, 0);
        c.is("10 its SIGHT stays", x, x.sight(0), 1, 0);
        c.is("10 taken", x, Checks.land(x, "town a; kind k; town q;"), 2, 0);
        c.is("10 no SHEETS then", x, x.many(4), 0, 0);
        long[] sight = {3, 1, 15, 0, 5, 6, 11, 0};
        for (int what = 0; what < 8; what++) {
            c.is("10 sight as at first " + what, x, x.sight(what), sight[what], 0);
        }
        String six = "town a;town b;town c;town d;town e;town f;kind g;kind h;kind i;kind j;kind k;kind m;";
        String four = "law n 1;law o 1;law p 1;law q 1;boat a 0;boat b 11;boat c 5;";
        c.is("10 as many as can be", x, Checks.land(x, six + four), 6, 0);
    }

    private static void faultIs(String text, int kind, int place) {
        MayBoats x = new MayBoats();
        int n = Checks.land(x, text);
        c.is("11 land of " + text, x, n, -1, 10);
        c.is("11 FAULT of " + text, x.fault(0), kind);
        c.is("11 place in " + text, x.fault(1), place);
    }

    private static void faults() {
        faultIs("town a, ", 1, 6);
        faultIs("Town a;", 1, 0);
        faultIs("town\ta;", 1, 4);
        faultIs("town a; \u00e9", 1, 8);
        faultIs("law l 00000;", 1, 6);
        faultIs("boat 12345", 1, 5);
        faultIs("a", 2, 0);
        faultIs("12", 2, 0);
        faultIs("town a", 2, 6);
        faultIs("town a  \n ", 2, 10);
        faultIs("town", 2, 4);
        faultIs("town ;", 2, 5);
        faultIs("town 7;", 2, 5);
        faultIs("town street;", 2, 5);
        faultIs("kind draw;", 2, 5);
        faultIs("law hit 1;", 2, 4);
        faultIs("town a b;", 2, 7);
        faultIs("town abcdefghi;", 2, 5);
        faultIs("town a; boat a;", 2, 14);
        faultIs("town a; boat a 3", 2, 16);
        faultIs("town a; boat year 3", 2, 13);
        faultIs("town a; boat 3", 2, 13);
        faultIs("law l;", 2, 5);
        faultIs("law l -1;", 2, 6);
        faultIs("law l a;", 2, 6);
        faultIs("law l law;", 2, 6);
        faultIs("law l 1 2;", 2, 8);
        faultIs("law l (1;", 2, 8);
        faultIs("law l 1);", 2, 7);
        faultIs("law l ();", 2, 7);
        faultIs("law l 1*;", 2, 8);
        faultIs("law l 1+(2*3", 2, 12);
        faultIs("town a; kind a;", 3, 13);
        faultIs("law a 1; town a;", 3, 14);
        faultIs("law a 1; law a 1;", 3, 13);
        faultIs("boat a 1; town a;", 3, 5);
        faultIs("kind a; boat a 1;", 3, 13);
        faultIs("town a; boat a 12;", 4, 15);
        faultIs("town a; boat a 9999", 4, 15);
        faultIs("town a; boat a 1; boat a 12;", 5, 23);
        faultIs("town a;town b;town c;town d;town e;town f;town 7", 6, 42);
        faultIs("kind a;kind b;kind c;kind d;kind e;kind f;kind a", 6, 42);
        faultIs("law a 1;law b 1;law c 1;law d 1;law", 6, 32);
        faultIs("town a;town b;town c;boat a 1;boat b 1;boat c 1;boat a 1;", 6, 48);
        faultIs("law l (((((((1)))))));", 7, 12);
        faultIs("law l 1+((((((1+((", 7, 16);
        MayBoats x = new MayBoats();
        c.is("11 six brackets", x, Checks.land(x, "law l ((((((1))))))*((2));"), 0, 0);
        c.is("11 no FAULT", x.fault(0), 0);
        c.is("11 no place", x.fault(1), -1);
        Checks.land(x, "q");
        x.land(99);
        c.is("11 a call with 5 is none", x.fault(0), 2);
        Checks.feed(x, "town a; boat a 12345;");
        c.is("11 just the first bytes", x, x.land(16), -1, 10);
        c.is("11 the NUMBER ends there", x.fault(0), 2);
        c.is("11 the NUMBER ends there", x.fault(1), 16);
        Checks.feed(x, "town abcdefghijk;");
        x.land(13);
        c.is("11 the WORD ends there", x.fault(0), 2);
        c.is("11 the WORD ends there", x.fault(1), 13);
        c.is("11 others", x.fault(2), -1);
        c.is("11 others", x.fault(-1), -1);
        c.is("11 eight letters, no blanks", x, Checks.land(x, "town abcdefgh;kind try;law least 0012*3;"), 1, 0);
    }

    private static void manyAndBoat() {
        MayBoats x = Checks.of("town a; town b; kind x; boat b 0; boat a 11; law l 1; law m 2; law n 3;");
        Checks.sheet(x, 1, 0, 0, 0, 5, 5);
        long[] many = {2, 1, 2, 3, 1};
        for (int what = 0; what < 5; what++) {
            c.is("12 many " + what, x, x.many(what), many[what], 0);
        }
        c.is("12 others", x, x.many(5), -1, 5);
        c.is("12 others", x, x.many(-1), -1, 5);
        c.is("13 TOWN", x, x.boat(0, 0), 1, 0);
        c.is("13 YEAR", x, x.boat(0, 1), 0, 0);
        c.is("13 TOWN", x, x.boat(1, 0), 0, 0);
        c.is("13 YEAR", x, x.boat(1, 1), 11, 0);
        c.is("13 no BOAT ahead of what", x, x.boat(2, 5), -1, 2);
        c.is("13 no BOAT", x, x.boat(-1, 0), -1, 2);
        c.is("13 what", x, x.boat(1, 2), -1, 5);
        c.is("13 what", x, x.boat(1, -1), -1, 5);
    }

    private static void told(String law, int want, int town, int year, int draw) {
        MayBoats x = Checks.of("town a; town b; kind x; kind y; boat b 4; law l " + law + ";");
        c.is("14 tells of " + law, x, x.tells(0, town, year, 1, 3, draw), want, 0);
    }

    private static void tells() {
        told("100*town + 10*kind + street", 113, 1, 0, 0);
        told("year*10 + hit", 30, 1, 3, 0);
        told("year*10 + hit", 41, 1, 4, 0);
        told("year*10 + hit", 111, 1, 11, 0);
        told("year*10 + hit", 110, 0, 11, 0);
        told("draw", 99, 0, 0, 99);
        told("10 - 3 - 2", 5, 0, 0, 0);
        told("100 / 5 / 2", 10, 0, 0, 0);
        told("100 / (5 / 2)", 50, 0, 0, 0);
        told("2 + 3 * 4 - 1", 13, 0, 0, 0);
        told("(2 + 3) * 4", 20, 0, 0, 0);
        told("7 / town + 5", 5, 0, 0, 0);
        told("5 + (0 - 7) / 2", 2, 0, 0, 0);
        told("0 - 1", 0, 0, 0, 0);
        told("9999", 999, 0, 0, 0);
        // By 64 bits 10^20 and 10^21 are far above 999, and 10^19 is below 0.
        told("1000*1000*1000*1000*1000*1000*100", 999, 0, 0, 0);
        told("1000*1000*1000*1000*1000*1000*1000", 999, 0, 0, 0);
        told("1000*1000*1000*1000*1000*1000*10", 0, 0, 0, 0);
        StringBuilder sum = new StringBuilder("town a; kind x; law l 1");
        while (sum.length() < 597) {
            sum.append("+1");
        }
        MayBoats y = Checks.of(sum.append(";").toString());
        c.is("14 a long LAW", y, y.tells(0, 0, 0, 0, 0, 0), 288, 0);
        MayBoats x = Checks.of(Checks.LAND);
        c.is("14 no LAW", x, x.tells(1, 0, 12, 0, 0, 0), -1, 2);
        c.is("14 no TOWN", x, x.tells(0, 3, 0, 0, 0, 0), -1, 2);
        c.is("14 no KIND", x, x.tells(0, 0, 0, 2, 0, 0), -1, 2);
        c.is("14 no YEAR", x, x.tells(0, 0, 12, 0, 0, 0), -1, 5);
        c.is("14 no STREET", x, x.tells(0, 0, 0, 0, 4, 0), -1, 5);
        c.is("14 no draw", x, x.tells(0, 0, 0, 0, 0, 100), -1, 5);
        c.is("14 below 0", x, x.tells(0, 0, 0, 0, 0, -1), -1, 5);
        c.is("14 below 0", x, x.tells(0, 0, -1, 0, 0, 0), -1, 5);
        c.is("14 below 0", x, x.tells(-1, 0, 0, 0, 0, 0), -1, 2);
    }

    public static void main(String[] args) {
        newObject();
        statusAndFraction();
        trays();
        writeAndRead();
        pour();
        feed();
        land();
        faults();
        manyAndBoat();
        tells();
        c.end("TraysAndLandTest");
    }
}
