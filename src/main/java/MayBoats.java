import java.util.Arrays;

/** Sheets of wages and rents, told before and after boats came; ../shared/DOC.md says what each call does. */
public final class MayBoats {
    public static final int NONE = -1;

    private static final int NO_TRAY = 1;
    private static final int NO_SUCH = 2;
    private static final int MISSING = 3;
    private static final int NO_PLACE = 4;
    private static final int NO_NUMBER = 5;
    private static final int BELOW_ZERO = 6;
    private static final int TOO_MANY = 7;
    private static final int NOTHING = 8;
    private static final int CANNOT_BE = 9;
    private static final int FAULTY = 10;
    private static final int UNLIKE = 11;

    private static final int TRAYS = 4;
    private static final int TRAY_MOST = 60;
    private static final int TAPE_MOST = 600;
    private static final int TEXT_MOST = 300;
    private static final int TOWNS_MOST = 6;
    private static final int KINDS_MOST = 6;
    private static final int LAWS_MOST = 4;
    private static final int BOATS_MOST = 3;
    private static final int SHEETS_MOST = 60;
    private static final int STREETS_MOST = 4;
    private static final int LAST_YEAR = 11;
    private static final int YEARS_ALL = 12;
    private static final int WAGE_MOST = 999;
    private static final int STEPS_MOST = 30;
    private static final int CLAIMS_MOST = 20;
    private static final int MARKS_MOST = 3;
    private static final int SEED_MOST = 9999;
    private static final int WORLDS_MOST = 50;

    private static final int CELLS = 6;
    private static final int CELL_TOWN = 0;
    private static final int CELL_YEAR = 1;
    private static final int CELL_KIND = 2;
    private static final int CELL_STREET = 3;
    private static final int CELL_WAGE = 4;
    private static final int CELL_RENT = 5;

    /** The four MEANS of a DIFFER; what is AFTER stands one behind what is BEFORE. */
    private static final int OWN = 0;
    private static final int OTHERS = 2;
    private static final int GROUPS = 4;

    /** In the order of the numbers below, a blank behind each. */
    private static final String LAND_WORDS = "town kind boat law year street hit draw ";
    private static final String WAYS_WORDS = "beside cut streets before after wages rents try each end least ";
    private static final String LINE_WORDS = "or and not fell rose held of ";
    private static final int WORDS_ALL = 26;
    private static final int W_TOWN = 0;
    private static final int W_KIND = 1;
    private static final int W_BOAT = 2;
    private static final int W_LAW = 3;
    private static final int W_YEAR = 4;
    private static final int W_STREET = 5;
    private static final int W_HIT = 6;
    private static final int W_DRAW = 7;
    private static final int W_BESIDE = 8;
    private static final int W_CUT = 9;
    private static final int W_STREETS = 10;
    private static final int W_BEFORE = 11;
    private static final int W_AFTER = 12;
    private static final int W_WAGES = 13;
    private static final int W_RENTS = 14;
    private static final int W_TRY = 15;
    private static final int W_EACH = 16;
    private static final int W_END = 17;
    private static final int W_LEAST = 18;
    private static final int W_OR = 19;
    private static final int W_AND = 20;
    private static final int W_NOT = 21;
    private static final int W_FELL = 22;
    private static final int W_ROSE = 23;
    private static final int W_HELD = 24;
    private static final int W_OF = 25;

    private int status;
    private final Fraction told = new Fraction();
    private final Fraction other = new Fraction();
    private final long[][] rows = new long[TRAYS][TRAY_MOST];
    private final int[] sorts = new int[TRAYS];
    private final int[] sizes = new int[TRAYS];
    private final byte[] tape = new byte[TAPE_MOST];
    private int tapeSize;
    private final Reader reader = new Reader();
    private final Book book = new Book();
    private Land spareLand = new Land();
    private Ways spareWays = new Ways();
    private Line spareLine = new Line();
    private final Book[] marks = new Book[MARKS_MOST];
    private int markCount;
    private final Tally tally = new Tally();
    private final Sight played = new Sight();
    private final Weave weaver = new Weave(book, tally);
    private final Writing writing = new Writing(book, tally);
    private final Turning turner = new Turning(book);

    public MayBoats() {
        Arrays.fill(sorts, NONE);
    }

    public int status() {
        return status;
    }

    public long top() {
        return told.over;
    }

    public long bottom() {
        return told.under;
    }

    private boolean refuse(int why) {
        status = why;
        return false;
    }

    private int none(int why) {
        status = why;
        return NONE;
    }

    private boolean grant() {
        status = 0;
        return true;
    }

    private int give(int answer) {
        status = 0;
        return answer;
    }

    private boolean tell(long over, long under) {
        told.put(over, under);
        return grant();
    }

    private static boolean isWithin(long v, long least, long greatest) {
        return v >= least && v <= greatest;
    }

    private static int allOf(int many) {
        return (1 << many) - 1;
    }

    private static boolean holds(int set, int member) {
        return (set >> member & 1) == 1;
    }

    // ---- TRAYS

    public boolean tray(int tray, int sort, int many) {
        if (!isWithin(tray, 0, TRAYS - 1) || !isWithin(sort, 0, 3)) {
            return refuse(NO_TRAY);
        }
        if (many > TRAY_MOST) {
            return refuse(NO_NUMBER);
        }
        if (many < 0) {
            return refuse(BELOW_ZERO);
        }
        sorts[tray] = sort;
        sizes[tray] = many;
        Arrays.fill(rows[tray], 0L);
        return grant();
    }

    /** The STATUS of a place of a TRAY, 0 if it is there. */
    private int placeStatus(int tray, int place) {
        if (!isWithin(tray, 0, TRAYS - 1)) {
            return NO_TRAY;
        }
        if (sorts[tray] == NONE) {
            return MISSING;
        }
        return isWithin(place, 0, sizes[tray] - 1) ? 0 : NO_PLACE;
    }

    public boolean write(int tray, int place, long v) {
        int why = placeStatus(tray, place);
        if (why != 0) {
            return refuse(why);
        }
        rows[tray][place] = cutTo(sorts[tray], v);
        return grant();
    }

    private static long cutTo(int sort, long v) {
        switch (sort) {
            case 0:
                return (byte) v;
            case 1:
                return (short) v;
            case 2:
                return (int) v;
            default:
                return v;
        }
    }

    public long read(int tray, int place) {
        int why = placeStatus(tray, place);
        status = why;
        return why != 0 ? NONE : rows[tray][place];
    }

    public boolean pour(int tray, int i, int to, int j, int many) {
        if (!isWithin(tray, 0, TRAYS - 1) || !isWithin(to, 0, TRAYS - 1)) {
            return refuse(NO_TRAY);
        }
        if (sorts[tray] == NONE || sorts[to] == NONE) {
            return refuse(MISSING);
        }
        if (sorts[tray] != sorts[to]) {
            return refuse(UNLIKE);
        }
        if (many < 0) {
            return refuse(BELOW_ZERO);
        }
        if (i < 0 || j < 0 || many > sizes[tray] - i || many > sizes[to] - j) {
            return refuse(NO_PLACE);
        }
        System.arraycopy(rows[tray], i, rows[to], j, many);
        return grant();
    }

    // ---- the LAND

    public int feed(int a, int b, int c, int d, int e) {
        if (tapeSize > TAPE_MOST - 20) {
            return NONE;
        }
        feedBytes(a);
        feedBytes(b);
        feedBytes(c);
        feedBytes(d);
        feedBytes(e);
        return tapeSize;
    }

    private void feedBytes(int four) {
        for (int shift = 24; shift >= 0 && tapeSize < TAPE_MOST; shift -= 8) {
            tape[tapeSize] = (byte) (four >> shift);
            tapeSize++;
        }
    }

    private void scanTape(int n) {
        reader.scan(tape, n);
        tapeSize = 0;
    }

    public int land(int n) {
        if (!isWithin(n, 0, tapeSize)) {
            return none(NO_NUMBER);
        }
        scanTape(n);
        spareLand.parse(reader);
        if (reader.faultKind != 0) {
            return none(FAULTY);
        }
        Land old = book.land;
        book.land = spareLand;
        spareLand = old;
        book.sheets = 0;
        book.sight.reset(book.land.towns, book.land.kinds);
        return give(book.land.towns);
    }

    public int fault(int what) {
        if (what == 0) {
            return reader.faultKind;
        }
        return what == 1 ? reader.faultPlace : NONE;
    }

    public int many(int what) {
        switch (what) {
            case 0:
                return give(book.land.towns);
            case 1:
                return give(book.land.kinds);
            case 2:
                return give(book.land.boats);
            case 3:
                return give(book.land.laws);
            case 4:
                return give(book.sheets);
            default:
                return none(NO_NUMBER);
        }
    }

    private boolean isTown(int town) {
        return isWithin(town, 0, book.land.towns - 1);
    }

    private boolean isKind(int kind) {
        return isWithin(kind, 0, book.land.kinds - 1);
    }

    private boolean isLaw(int law) {
        return isWithin(law, 0, book.land.laws - 1);
    }

    private boolean isBoat(int boat) {
        return isWithin(boat, 0, book.land.boats - 1);
    }

    private boolean isSheet(int sheet) {
        return isWithin(sheet, 0, book.sheets - 1);
    }

    private boolean areTowns(int set) {
        return (set & ~allOf(book.land.towns)) == 0;
    }

    private static boolean areYears(int from, int to) {
        return from >= 0 && to >= from && to <= LAST_YEAR;
    }

    private int townOf(int boat) {
        return isBoat(boat) ? book.land.boatTown[boat] : NONE;
    }

    public int boat(int boat, int what) {
        if (!isBoat(boat)) {
            return none(NO_SUCH);
        }
        if (!isWithin(what, 0, 1)) {
            return none(NO_NUMBER);
        }
        return give(what == 0 ? book.land.boatTown[boat] : book.land.boatYear[boat]);
    }

    public int tells(int law, int town, int year, int kind, int street, int draw) {
        if (!isLaw(law) || !isTown(town) || !isKind(kind)) {
            return none(NO_SUCH);
        }
        if (!areYears(year, year) || !isWithin(street, 0, STREETS_MOST - 1) || !isWithin(draw, 0, 99)) {
            return none(NO_NUMBER);
        }
        return give(book.land.wageBy(law, town, year, kind, street, draw));
    }

    // ---- SHEETS

    public int sheet(int tray) {
        int why = placeStatus(tray, CELLS - 1);
        if (why != 0) {
            return none(why);
        }
        if (!book.fits(rows[tray])) {
            return none(NO_NUMBER);
        }
        if (book.sheets >= SHEETS_MOST) {
            return none(TOO_MANY);
        }
        return give(book.add(rows[tray]));
    }

    public int look(int sheet, int what) {
        if (!isSheet(sheet)) {
            return none(NO_SUCH);
        }
        if (!isWithin(what, 0, CELLS - 1)) {
            return none(NO_NUMBER);
        }
        int v = book.cell(sheet, what);
        return v < 0 ? none(NOTHING) : give(v);
    }

    public boolean say(int sheet, boolean rent, int v) {
        if (!isSheet(sheet)) {
            return refuse(NO_SUCH);
        }
        if (!isWithin(v, NONE, WAGE_MOST)) {
            return refuse(NO_NUMBER);
        }
        book.setCell(sheet, rent ? CELL_RENT : CELL_WAGE, v);
        return grant();
    }

    // ---- the SIGHT

    public boolean beside(int towns) {
        if (!areTowns(towns)) {
            return refuse(NO_SUCH);
        }
        book.sight.beside = towns;
        return grant();
    }

    public boolean cut(int kinds, int streets) {
        if ((kinds & ~allOf(book.land.kinds)) != 0) {
            return refuse(NO_SUCH);
        }
        if (!isWithin(streets, 0, allOf(STREETS_MOST))) {
            return refuse(NO_NUMBER);
        }
        book.sight.cut = kinds;
        book.sight.streets = streets;
        return grant();
    }

    public boolean years(int from, int to, int then, int till) {
        if (!areYears(from, to) || !areYears(then, till)) {
            return refuse(NO_NUMBER);
        }
        book.sight.putBefore(from, to);
        book.sight.putAfter(then, till);
        return grant();
    }

    public boolean rents(boolean are) {
        book.sight.rents = are;
        return grant();
    }

    public int sight(int what) {
        Sight s = book.sight;
        switch (what) {
            case 0:
                return give(s.beside);
            case 1:
                return give(s.cut);
            case 2:
                return give(s.streets);
            case 3:
                return give(s.from);
            case 4:
                return give(s.to);
            case 5:
                return give(s.then);
            case 6:
                return give(s.till);
            case 7:
                return give(s.rents ? 1 : 0);
            default:
                return none(NO_NUMBER);
        }
    }

    /** The STATUS of a TOWN and YEARS; if it is 0, the tally has picked what COUNTS for them. */
    private int pickStatus(int town, int from, int to) {
        if (!isTown(town)) {
            return NO_SUCH;
        }
        if (!areYears(from, to)) {
            return NO_NUMBER;
        }
        tally.pick(book, 1 << town, from, to);
        return 0;
    }

    public int counts(int town, int from, int to) {
        int why = pickStatus(town, from, to);
        return why != 0 ? none(why) : give(tally.picked);
    }

    public boolean mean(int town, int from, int to) {
        int why = pickStatus(town, from, to);
        if (why != 0) {
            return refuse(why);
        }
        return tally.picked == 0 ? refuse(NOTHING) : tell(tally.total, tally.picked);
    }

    // ---- DIFFER

    private boolean hasDiffer(int town) {
        return tally.take(book, book.sight, town);
    }

    public boolean differ(int town) {
        if (!isTown(town)) {
            return refuse(NO_SUCH);
        }
        return hasDiffer(town) ? tell(tally.over(), tally.under()) : refuse(NOTHING);
    }

    /** The STATUS of a BOAT that must have a DIFFER; if it is 0, the tally and the other FRACTION have it. */
    private int boatStatus(int boat) {
        if (!isBoat(boat)) {
            return NO_SUCH;
        }
        if (!hasDiffer(townOf(boat))) {
            return NOTHING;
        }
        other.put(tally.over(), tally.under());
        return 0;
    }

    /** How many are PLAYED, or of these just those that go at least as far as the other FRACTION. */
    private int countPlayed(int own, boolean farOnly) {
        played.copy(book.sight);
        played.beside &= ~(1 << own);
        int n = 0;
        for (int t = 0; t < book.land.towns; t++) {
            boolean plays = holds(played.beside, t) && book.land.boatTo(t) == NONE
                    && tally.take(book, played, t);
            if (plays && (!farOnly || other.isReachedBy(tally.over(), tally.under()))) {
                n++;
            }
        }
        return n;
    }

    public int far(int boat) {
        int why = boatStatus(boat);
        return why != 0 ? none(why) : give(countPlayed(townOf(boat), true));
    }

    public boolean chance(int boat) {
        int why = boatStatus(boat);
        if (why != 0) {
            return refuse(why);
        }
        int own = townOf(boat);
        return tell(countPlayed(own, true) + 1L, countPlayed(own, false) + 1L);
    }

    public long weave(int boat, int n) {
        if (!isBoat(boat)) {
            return none(NO_SUCH);
        }
        if (!isWithin(n, 1, 8)) {
            return none(NO_NUMBER);
        }
        if (!weaver.find(townOf(boat), n)) {
            return none(NOTHING);
        }
        status = 0;
        return weaver.least;
    }

    public int woven(int town) {
        if (!weaver.there) {
            return none(NOTHING);
        }
        if (!isWithin(town, 0, weaver.towns - 1)) {
            return none(NO_SUCH);
        }
        return give(weaver.weight[town]);
    }

    public boolean gap(int year) {
        if (!areYears(year, year)) {
            return refuse(NO_NUMBER);
        }
        if (!weaver.there) {
            return refuse(NOTHING);
        }
        if (weaver.towns != book.land.towns) {
            return refuse(CANNOT_BE);
        }
        if (!weaver.hasGap(year)) {
            return refuse(NOTHING);
        }
        return tell(weaver.gapOver, 60L * weaver.n);
    }

    public int cuts(int boat, int sheets, int below) {
        if (!isBoat(boat)) {
            return none(NO_SUCH);
        }
        if (!isWithin(sheets, 1, SHEETS_MOST) || !isWithin(below, -9999, 9999)) {
            return none(NO_NUMBER);
        }
        int own = townOf(boat);
        int n = 0;
        played.copy(book.sight);
        for (int set = 1; set <= allOf(book.land.kinds); set++) {
            played.cut = set;
            if (tally.take(book, played, own) && tally.hasEach(sheets) && tally.over() < below * tally.under()) {
                n++;
            }
        }
        return give(n);
    }

    public int deepest(int boat, int sheets) {
        if (!isBoat(boat)) {
            return none(NO_SUCH);
        }
        if (!isWithin(sheets, 1, SHEETS_MOST)) {
            return none(NO_NUMBER);
        }
        int own = townOf(boat);
        int best = NONE;
        played.copy(book.sight);
        for (int set = 1; set <= allOf(book.land.kinds); set++) {
            played.cut = set;
            if (tally.take(book, played, own) && tally.hasEach(sheets)
                    && (best == NONE || other.isAbove(tally.over(), tally.under()))) {
                best = set;
                other.put(tally.over(), tally.under());
            }
        }
        if (best == NONE) {
            return none(NOTHING);
        }
        tell(other.over, other.under);
        return best;
    }

    public boolean right(int boat) {
        if (!isBoat(boat)) {
            return refuse(NO_SUCH);
        }
        int own = townOf(boat);
        other.put(0, 1);
        boolean there = !book.sight.overlaps() && addRight(own, OWN, 1) && addRight(own, OTHERS, -1);
        return there ? tell(other.over, other.under) : refuse(NOTHING);
    }

    /** Adds, with a sign, one side's MEAN AFTER put right less its MEAN BEFORE; false if there is none. */
    private boolean addRight(int own, int side, int sign) {
        tally.take(book, book.sight, own);
        long all = tally.count[side];
        if (all == 0) {
            return false;
        }
        other.add(-sign * tally.sum[side], all);
        played.copy(book.sight);
        for (int street = 0; street < STREETS_MOST; street++) {
            played.streets = book.sight.streets & 1 << street;
            tally.take(book, played, own);
            long before = tally.count[side];
            long after = tally.count[side + 1];
            if (before > 0 && after == 0) {
                return false;
            }
            if (before > 0) {
                other.add(sign * before * tally.sum[side + 1], after * all);
            }
        }
        return true;
    }

    public boolean left(int boat, int many, int least, int greatest, boolean most) {
        if (!isBoat(boat)) {
            return refuse(NO_SUCH);
        }
        if (!isWithin(many, 0, 50) || !isWithin(least, 0, WAGE_MOST) || !isWithin(greatest, least, WAGE_MOST)) {
            return refuse(NO_NUMBER);
        }
        tally.take(book, book.sight, townOf(boat));
        tally.count[OWN + 1] += many;
        tally.sum[OWN + 1] += (long) many * (most ? greatest : least);
        boolean there = !book.sight.overlaps() && tally.hasEach(1);
        return there ? tell(tally.over(), tally.under()) : refuse(NOTHING);
    }

    public boolean joined() {
        int n = 0;
        other.put(0, 1);
        for (int b = 0; b < book.land.boats; b++) {
            if (hasDiffer(townOf(b))) {
                other.add(tally.over(), tally.under());
                n++;
            }
        }
        return n == 0 ? refuse(NOTHING) : tell(other.over, other.under * n);
    }

    public int needs(int boat, int x) {
        if (!isBoat(boat)) {
            return none(NO_SUCH);
        }
        if (!isWithin(x, 1, WAGE_MOST)) {
            return none(NO_NUMBER);
        }
        if (!hasDiffer(townOf(boat))) {
            return none(NOTHING);
        }
        other.put(0, 1);
        for (int g = 0; g < GROUPS; g++) {
            long c = tally.count[g];
            other.add(tally.square[g] * c - tally.sum[g] * tally.sum[g], c * c);
        }
        long atMost = other.under * x * x;
        long least = (4 * other.over + atMost - 1) / Math.max(1L, atMost);
        return give((int) Math.max(1L, least));
    }

    /** Whether EARLIER by a YEAR there is; the tally has it then. */
    private boolean hasEarlier(int own, int year) {
        played.copy(book.sight);
        played.putAfter(year, book.sight.to);
        played.putBefore(book.sight.from, year - 1);
        return tally.take(book, played, own);
    }

    public boolean earlier(int boat, int year) {
        if (!isBoat(boat)) {
            return refuse(NO_SUCH);
        }
        if (!isWithin(year, book.sight.from + 1L, book.sight.to)) {
            return refuse(NO_NUMBER);
        }
        return hasEarlier(townOf(boat), year) ? tell(tally.over(), tally.under()) : refuse(NOTHING);
    }

    public int earliers(int boat) {
        int why = boatStatus(boat);
        if (why != 0) {
            return none(why);
        }
        int n = 0;
        for (int year = book.sight.from + 1; year <= book.sight.to; year++) {
            if (hasEarlier(townOf(boat), year) && other.isReachedBy(tally.over(), tally.under())) {
                n++;
            }
        }
        return give(n);
    }

    /** Adds, with a sign, the TREND of some TOWNS to the other FRACTION; false if there is none. */
    private boolean addTrend(int towns, int sign) {
        long n = 0;
        long yearSum = 0;
        long squareSum = 0;
        for (int year = book.sight.from; year <= book.sight.to; year++) {
            tally.pick(book, towns, year, year);
            if (tally.picked > 0) {
                n++;
                yearSum += year;
                squareSum += (long) year * year;
            }
        }
        long by = n * squareSum - yearSum * yearSum;
        if (n < 2 || by <= 0) {
            return false;
        }
        for (int year = book.sight.from; year <= book.sight.to; year++) {
            tally.pick(book, towns, year, year);
            if (tally.picked > 0) {
                other.add(sign * (n * year - yearSum) * tally.total, by * tally.picked);
            }
        }
        return true;
    }

    public boolean trend(int towns) {
        if (!areTowns(towns)) {
            return refuse(NO_SUCH);
        }
        other.put(0, 1);
        return addTrend(towns, 1) ? tell(other.over, other.under) : refuse(NOTHING);
    }

    public boolean split(int town) {
        if (!isTown(town)) {
            return refuse(NO_SUCH);
        }
        other.put(0, 1);
        boolean there = addTrend(1 << town, 1) && addTrend(book.sight.beside & ~(1 << town), -1);
        return there ? tell(other.over, other.under) : refuse(NOTHING);
    }

    /** The other FRACTION becomes MIX, or PURE, of a TOWN; false if there is none. */
    private boolean hasPart(int town, boolean pureOne) {
        tally.take(book, book.sight, town);
        long before = tally.count[OWN];
        long after = tally.count[OWN + 1];
        if (book.sight.overlaps() || before == 0 || after == 0) {
            return false;
        }
        other.put(0, 1);
        played.copy(book.sight);
        for (int kind = 0; kind < book.land.kinds; kind++) {
            played.cut = book.sight.cut & 1 << kind;
            tally.take(book, played, town);
            if (tally.count[OWN] == 0 && tally.count[OWN + 1] > 0) {
                return false;
            }
            if (tally.count[OWN] > 0) {
                addPart(before, after, pureOne);
            }
        }
        return true;
    }

    /** Adds one KIND's part, out of the tally of that KIND alone. */
    private void addPart(long before, long after, boolean pureOne) {
        long ofKind = tally.count[OWN];
        long asBefore = tally.count[OWN + 1] * tally.sum[OWN];
        if (pureOne) {
            other.add(tally.sum[OWN + 1], after);
            other.add(-asBefore, after * ofKind);
        } else {
            other.add(asBefore, after * ofKind);
            other.add(-tally.sum[OWN], before);
        }
    }

    public boolean mix(int town) {
        if (!isTown(town)) {
            return refuse(NO_SUCH);
        }
        return hasPart(town, false) ? tell(other.over, other.under) : refuse(NOTHING);
    }

    public boolean pure(int town) {
        if (!isTown(town)) {
            return refuse(NO_SUCH);
        }
        return hasPart(town, true) ? tell(other.over, other.under) : refuse(NOTHING);
    }

    // ---- WORLDS

    private static int nextDraw(int s) {
        return (s * 1621 + 11113) % 65536;
    }

    private static int drawOf(int s) {
        return s / 16 % 100;
    }

    public int world(int law, int seed) {
        if (!isLaw(law)) {
            return none(NO_SUCH);
        }
        if (!isWithin(seed, 0, SEED_MOST)) {
            return none(NO_NUMBER);
        }
        int s = seed;
        int n = 0;
        for (int i = 0; i < book.sheets; i++) {
            s = nextDraw(s);
            int old = book.cell(i, CELL_WAGE);
            int drawn = old == NONE ? NONE : book.wageBy(i, law, drawOf(s));
            if (drawn != old) {
                book.setCell(i, CELL_WAGE, drawn);
                n++;
            }
        }
        return give(n);
    }

    private static boolean areWorlds(int seed, int many) {
        return isWithin(seed, 0, SEED_MOST) && isWithin(many, 1, WORLDS_MOST);
    }

    public int span(int boat, int law, int seed, int many, int what) {
        if (!isBoat(boat) || !isLaw(law)) {
            return none(NO_SUCH);
        }
        if (!areWorlds(seed, many) || !isWithin(what, 0, 2)) {
            return none(NO_NUMBER);
        }
        int own = townOf(boat);
        // A drawn WORLD has the same SHEETS that say something, so either every one has a DIFFER or none.
        boolean there = hasDiffer(own);
        if (what == 2) {
            return give(there ? many : 0);
        }
        if (!there) {
            return none(NOTHING);
        }
        long found = drawnRounded(own, law, seed);
        for (int k = 1; k < many; k++) {
            long d = drawnRounded(own, law, seed + k);
            found = what == 0 ? Math.min(found, d) : Math.max(found, d);
        }
        return give((int) found);
    }

    /** The DIFFER, ROUNDED, in a WORLD of a TOWN that has one. */
    private long drawnRounded(int own, int law, int seed) {
        tally.draw(book, own, law, seed);
        return tally.rounded();
    }

    public boolean odds(int boat, int law, int seed, int many, int within) {
        if (!isBoat(boat) || !isLaw(law)) {
            return refuse(NO_SUCH);
        }
        if (!areWorlds(seed, many) || !isWithin(within, 0, WAGE_MOST)) {
            return refuse(NO_NUMBER);
        }
        int own = townOf(boat);
        if (!hasDiffer(own)) {
            return refuse(NOTHING);
        }
        long truth = tally.rounded();
        int ofLaw = 0;
        int ofAll = 0;
        for (int l = 0; l < book.land.laws; l++) {
            for (int k = 0; k < many; k++) {
                if (Math.abs(drawnRounded(own, l, seed + k) - truth) <= within) {
                    ofAll++;
                    ofLaw += l == law ? 1 : 0;
                }
            }
        }
        return ofAll == 0 ? refuse(NOTHING) : tell(ofLaw, ofAll);
    }

    // ---- WAYS, MARKS

    private boolean isText(int n) {
        return isWithin(n, 0, Math.min(tapeSize, TEXT_MOST));
    }

    public int ways(int n) {
        if (!isText(n)) {
            return none(NO_NUMBER);
        }
        scanTape(n);
        spareWays.parse(reader, book.land);
        if (reader.faultKind != 0) {
            return none(FAULTY);
        }
        Ways old = book.ways;
        book.ways = spareWays;
        spareWays = old;
        return give(book.ways.steps);
    }

    public int written(int boat) {
        if (!isBoat(boat)) {
            return none(NO_SUCH);
        }
        writing.run(townOf(boat));
        return give(writing.tries);
    }

    public int writ(int what) {
        if (!isWithin(what, 0, 2)) {
            return none(NO_NUMBER);
        }
        if (!writing.there || what == 0 && writing.tries == 0) {
            return none(NOTHING);
        }
        if (what == 0) {
            tell(writing.farthest.over, writing.farthest.under);
            return writing.farthestTry;
        }
        return give(what == 1 ? writing.done : writing.isCutOff ? 1 : 0);
    }

    public int line(int n) {
        if (!isText(n)) {
            return none(NO_NUMBER);
        }
        scanTape(n);
        spareLine.parse(reader, book.land);
        if (reader.faultKind != 0) {
            return none(FAULTY);
        }
        Line old = book.line;
        book.line = spareLine;
        spareLine = old;
        return give(book.line.claims);
    }

    /** The STATUS of a TOWN of which the LINE is asked. */
    private int lineStatus(int town) {
        if (!isTown(town)) {
            return NO_SUCH;
        }
        return book.line.claims == 0 ? NOTHING : 0;
    }

    public int said(int town) {
        int why = lineStatus(town);
        return why != 0 ? none(why) : give(turner.valueNow(town));
    }

    public int turned(int town) {
        int why = lineStatus(town);
        if (why != 0) {
            return none(why);
        }
        return turner.find(town) ? give(turner.found) : none(CANNOT_BE);
    }

    public int turning(int k) {
        if (!isWithin(k, 0, turner.found - 1)) {
            return none(NOTHING);
        }
        return give(k == 0 ? turner.first : turner.second);
    }

    public int mark() {
        if (markCount >= MARKS_MOST) {
            return none(TOO_MANY);
        }
        if (marks[markCount] == null) {
            marks[markCount] = new Book();
        }
        marks[markCount].copy(book);
        markCount++;
        return give(markCount);
    }

    public int back() {
        if (markCount == 0 || marks[markCount - 1] == null) {
            return none(NOTHING);
        }
        markCount--;
        book.copy(marks[markCount]);
        return give(markCount);
    }

    /** Kept without a common divisor, the bottom above 0. */
    private static final class Fraction {
        long over = 0;
        long under = 1;

        private static long divisorOf(long a, long b) {
            long x = Math.abs(a);
            long y = Math.abs(b);
            // Euclid's steps on 64 bits are fewer than 100.
            for (int k = 0; k < 200 && y != 0; k++) {
                long rest = x % y;
                x = y;
                y = rest;
            }
            return Math.max(1L, x);
        }

        void put(long o, long u) {
            long g = divisorOf(o, u);
            over = u < 0 ? -o / g : o / g;
            under = Math.max(1L, Math.abs(u) / g);
        }

        void add(long o, long u) {
            long g = divisorOf(under, u);
            put(over * (u / g) + o * (under / g), under / g * u);
        }

        /** Whether another one is at least as great in size. */
        boolean isReachedBy(long o, long u) {
            return Math.abs(o) * under >= Math.abs(over) * u;
        }

        /** Whether another one is greater in size. */
        boolean isPassedBy(long o, long u) {
            return Math.abs(o) * under > Math.abs(over) * u;
        }

        boolean isAbove(long o, long u) {
            return over * u > o * under;
        }
    }

    /** What the SHEETS are looked at by. */
    private static final class Sight {
        int beside;
        int cut;
        int streets = allOf(STREETS_MOST);
        int from = 0;
        int to = 5;
        int then = 6;
        int till = LAST_YEAR;
        boolean rents;

        void reset(int towns, int kinds) {
            beside = allOf(towns);
            cut = allOf(kinds);
            streets = allOf(STREETS_MOST);
            putBefore(0, 5);
            putAfter(6, LAST_YEAR);
            rents = false;
        }

        void copy(Sight s) {
            beside = s.beside;
            cut = s.cut;
            streets = s.streets;
            putBefore(s.from, s.to);
            putAfter(s.then, s.till);
            rents = s.rents;
        }

        void putBefore(int first, int last) {
            from = first;
            to = last;
        }

        void putAfter(int first, int last) {
            then = first;
            till = last;
        }

        boolean overlaps() {
            return Math.max(from, then) <= Math.min(to, till);
        }

        /** What a SHEET says if it COUNTS by some KINDS, else NONE. */
        int saidBy(Book b, int sheet, int kinds) {
            if (!holds(kinds, b.cell(sheet, CELL_KIND)) || !holds(streets, b.cell(sheet, CELL_STREET))) {
                return NONE;
            }
            return b.cell(sheet, rents ? CELL_RENT : CELL_WAGE);
        }

        /** Of which of the four MEANS of a TOWN's DIFFER a SHEET is, or NONE. */
        int groupOf(Book b, int sheet, int own) {
            int town = b.cell(sheet, CELL_TOWN);
            int year = b.cell(sheet, CELL_YEAR);
            if (town != own && !holds(beside, town)) {
                return NONE;
            }
            int side = town == own ? OWN : OTHERS;
            if (year >= from && year <= to) {
                return side;
            }
            return year >= then && year <= till ? side + 1 : NONE;
        }
    }

    /** All that a MARK keeps. */
    private static final class Book {
        Land land = new Land();
        Ways ways = new Ways();
        Line line = new Line();
        final Sight sight = new Sight();
        final int[] cells = new int[SHEETS_MOST * CELLS];
        int sheets;

        void copy(Book b) {
            land.copy(b.land);
            ways.copy(b.ways);
            line.copy(b.line);
            sight.copy(b.sight);
            System.arraycopy(b.cells, 0, cells, 0, cells.length);
            sheets = b.sheets;
        }

        int cell(int sheet, int what) {
            int at = sheet * CELLS + what;
            return at >= 0 && at < cells.length ? cells[at] : NONE;
        }

        void setCell(int sheet, int what, int v) {
            int at = sheet * CELLS + what;
            if (at >= 0 && at < cells.length) {
                cells[at] = v;
            }
        }

        boolean fits(long[] row) {
            return row.length >= CELLS
                    && isWithin(row[CELL_TOWN], 0, land.towns - 1)
                    && isWithin(row[CELL_YEAR], 0, LAST_YEAR)
                    && isWithin(row[CELL_KIND], 0, land.kinds - 1)
                    && isWithin(row[CELL_STREET], 0, STREETS_MOST - 1)
                    && isWithin(row[CELL_WAGE], NONE, WAGE_MOST)
                    && isWithin(row[CELL_RENT], NONE, WAGE_MOST);
        }

        int add(long[] row) {
            for (int what = 0; what < CELLS && what < row.length; what++) {
                setCell(sheets, what, (int) row[what]);
            }
            sheets++;
            return sheets - 1;
        }

        int wageBy(int sheet, int law, int draw) {
            return land.wageBy(law, cell(sheet, CELL_TOWN), cell(sheet, CELL_YEAR),
                    cell(sheet, CELL_KIND), cell(sheet, CELL_STREET), draw);
        }
    }

    /** Counts and sums of what SHEETS say, and the DIFFER out of them. */
    private static final class Tally {
        final int[] count = new int[GROUPS];
        final long[] sum = new long[GROUPS];
        final long[] square = new long[GROUPS];
        int picked;
        long total;

        void clear() {
            Arrays.fill(count, 0);
            Arrays.fill(sum, 0L);
            Arrays.fill(square, 0L);
        }

        void put(int group, int v) {
            if (group >= 0 && group < GROUPS) {
                count[group]++;
                sum[group] += v;
                square[group] += (long) v * v;
            }
        }

        /** Takes the four MEANS of a TOWN; true if there is a DIFFER. */
        boolean take(Book b, Sight s, int own) {
            clear();
            for (int i = 0; i < b.sheets; i++) {
                int v = s.saidBy(b, i, s.cut);
                if (v >= 0) {
                    put(s.groupOf(b, i, own), v);
                }
            }
            return hasEach(1) && !s.overlaps();
        }

        /** As take by the SIGHT, in a WORLD. */
        void draw(Book b, int own, int law, int seed) {
            clear();
            int s = seed;
            for (int i = 0; i < b.sheets; i++) {
                s = nextDraw(s);
                int v = b.sight.saidBy(b, i, b.sight.cut);
                int group = v >= 0 ? b.sight.groupOf(b, i, own) : NONE;
                if (group >= 0) {
                    put(group, b.sight.rents ? v : b.wageBy(i, law, drawOf(s)));
                }
            }
        }

        void pick(Book b, int towns, int from, int to) {
            picked = 0;
            total = 0;
            for (int i = 0; i < b.sheets; i++) {
                int v = b.sight.saidBy(b, i, b.sight.cut);
                if (v >= 0 && holds(towns, b.cell(i, CELL_TOWN)) && isWithin(b.cell(i, CELL_YEAR), from, to)) {
                    picked++;
                    total += v;
                }
            }
        }

        boolean hasEach(int least) {
            return count[0] >= least && count[1] >= least && count[2] >= least && count[3] >= least;
        }

        long under() {
            return (long) count[0] * count[1] * count[2] * count[3];
        }

        long over() {
            long ownPart = sum[OWN + 1] * count[OWN] - sum[OWN] * count[OWN + 1];
            long othersPart = sum[OTHERS + 1] * count[OTHERS] - sum[OTHERS] * count[OTHERS + 1];
            return ownPart * count[OTHERS] * count[OTHERS + 1] - othersPart * count[OWN] * count[OWN + 1];
        }

        long rounded() {
            return Math.floorDiv(over(), Math.max(1L, under()));
        }
    }

    /** A text's TOKENS, and the first FAULT that was found in it. */
    private static final class Reader {
        private static final int END = 0;
        private static final int WORD = 1;
        private static final int NUMBER = 2;
        private static final int SIGN = 3;
        private static final int BAD = 4;
        private static final int TOKENS_MOST = TAPE_MOST + 1;

        private final byte[] sort = new byte[TOKENS_MOST];
        private final byte[] wordNumber = new byte[TOKENS_MOST];
        private final short[] place = new short[TOKENS_MOST];
        private final long[] value = new long[TOKENS_MOST];
        private final long[] keys = new long[WORDS_ALL];
        private int size;
        private int now;
        private int sortNow = END;
        private int wordNow = NONE;
        private long valueNow;
        int faultKind = NONE;
        int faultPlace = NONE;

        Reader() {
            int next = addKeys(LAND_WORDS, 0);
            next = addKeys(WAYS_WORDS, next);
            addKeys(LINE_WORDS, next);
        }

        private int addKeys(String words, int from) {
            int k = from;
            long packed = 0;
            for (int i = 0; i < words.length(); i++) {
                char c = words.charAt(i);
                if (c != ' ') {
                    packed = packed * 32 + (c - 'a' + 1);
                } else if (k < WORDS_ALL) {
                    keys[k] = packed;
                    k++;
                    packed = 0;
                }
            }
            return k;
        }

        void scan(byte[] tape, int n) {
            size = 0;
            faultKind = 0;
            faultPlace = NONE;
            int p = 0;
            for (int k = 0; k < TAPE_MOST && p < n && p < tape.length; k++) {
                int c = tape[p];
                if (c == 10 || c == 32) {
                    p++;
                } else if (isLetter(c)) {
                    p = scanWord(tape, p, n);
                } else if (isDigit(c)) {
                    p = scanNumber(tape, p, n);
                } else if (isSignByte(c)) {
                    put(SIGN, p, c);
                    p++;
                } else {
                    // Nothing behind it can be the first FAULT.
                    put(BAD, p, 0);
                    p = n;
                }
            }
            put(END, n, 0);
            now = NONE;
            skip();
        }

        private static boolean isLetter(int c) {
            return c >= 'a' && c <= 'z';
        }

        private static boolean isDigit(int c) {
            return c >= '0' && c <= '9';
        }

        private static boolean isSignByte(int c) {
            return c == ';' || c == '+' || c == '-' || c == '*' || c == '/' || c == '(' || c == ')';
        }

        private void put(int what, int at, long v) {
            if (size < TOKENS_MOST) {
                sort[size] = (byte) what;
                place[size] = (short) at;
                value[size] = v;
                wordNumber[size] = (byte) (what == WORD ? keyOf(v) : NONE);
                size++;
            }
        }

        private int keyOf(long packed) {
            for (int k = 0; k < WORDS_ALL; k++) {
                if (keys[k] == packed) {
                    return k;
                }
            }
            return NONE;
        }

        /** A WORD of more than 8 letters has the value 0, which no NAME has. */
        private int scanWord(byte[] tape, int from, int n) {
            long packed = 0;
            int p = from;
            for (; p < n && p < tape.length && isLetter(tape[p]); p++) {
                packed = p - from < 8 ? packed * 32 + (tape[p] - 'a' + 1) : 0;
            }
            put(WORD, from, packed);
            return p;
        }

        private int scanNumber(byte[] tape, int from, int n) {
            int v = 0;
            int p = from;
            for (; p < n && p < tape.length && isDigit(tape[p]); p++) {
                v = p - from < 4 ? v * 10 + (tape[p] - '0') : v;
            }
            put(p - from > 4 ? BAD : NUMBER, from, v);
            return p;
        }

        boolean atEnd() {
            return sortNow == END;
        }

        boolean isNumber() {
            return sortNow == NUMBER;
        }

        boolean isSign(char c) {
            return sortNow == SIGN && valueNow == c;
        }

        /** Whether a NAME stands here, the words from first to last being none. */
        boolean isName(int first, int last) {
            boolean isKey = wordNow >= first && wordNow <= last || wordNow >= W_TOWN && wordNow <= W_DRAW;
            return sortNow == WORD && valueNow != 0 && !isKey;
        }

        /** The number of the word that stands here, NONE if it is no key. */
        int word() {
            return wordNow;
        }

        /** The letters of the WORD, packed, or the NUMBER that stands here. */
        long held() {
            return valueNow;
        }

        void skip() {
            if (now + 1 < size && now + 1 >= 0 && now + 1 < TOKENS_MOST) {
                now++;
                sortNow = sort[now];
                wordNow = wordNumber[now];
                valueNow = value[now];
            }
        }

        /** A FAULT here; the rest of the text is passed over, so that it stays the first one. */
        void fail(int kind) {
            if (faultKind == 0 && now >= 0 && now < TOKENS_MOST) {
                faultKind = sortNow == BAD ? 1 : kind;
                faultPlace = place[now];
                now = TOKENS_MOST;
                sortNow = END;
                wordNow = NONE;
                valueNow = 0;
            }
        }

        void need(char c) {
            if (isSign(c)) {
                skip();
            } else {
                fail(2);
            }
        }

        int numberWithin(int least, int greatest) {
            int v = (int) valueNow;
            if (sortNow != NUMBER) {
                fail(2);
                return 0;
            }
            if (v < least || v > greatest) {
                fail(4);
                return 0;
            }
            skip();
            return v;
        }

        /** The set of all NAMES that stand here, one and more, the words from first to last being none. */
        int nameSet(long[] names, int many, int first, int last) {
            int set = 0;
            for (int k = 0; k < TAPE_MOST && (k == 0 || isName(first, last)); k++) {
                int at = Land.placeOf(names, many, valueNow);
                if (!isName(first, last)) {
                    fail(2);
                } else if (at == NONE) {
                    fail(3);
                } else if (holds(set, at)) {
                    fail(5);
                } else {
                    set |= 1 << at;
                    skip();
                }
            }
            return set;
        }
    }

    /** TOWNS, KINDS, BOATS and LAWS; a LAW is kept as steps on a stack. */
    private static final class Land {
        private static final int ADD = -11;
        private static final int SUBTRACT = -12;
        private static final int MULTIPLY = -13;
        private static final int DIVIDE = -14;
        private static final int BRACKETS_MOST = 6;
        // Each level of brackets leaves a sum and a product open.
        private static final int STACK = 24;

        final long[] townNames = new long[TOWNS_MOST];
        final long[] kindNames = new long[KINDS_MOST];
        final long[] lawNames = new long[LAWS_MOST];
        final int[] boatTown = new int[BOATS_MOST];
        final int[] boatYear = new int[BOATS_MOST];
        final int[] lawEnd = new int[LAWS_MOST];
        final short[] code = new short[TAPE_MOST];
        final long[] variables = new long[W_DRAW + 1];
        final long[] stack = new long[STACK];
        int towns;
        int kinds;
        int laws;
        int boats;
        int codeSize;

        /** All but what matters just while a text is read. */
        void copy(Land l) {
            System.arraycopy(l.townNames, 0, townNames, 0, TOWNS_MOST);
            System.arraycopy(l.kindNames, 0, kindNames, 0, KINDS_MOST);
            System.arraycopy(l.boatTown, 0, boatTown, 0, BOATS_MOST);
            System.arraycopy(l.boatYear, 0, boatYear, 0, BOATS_MOST);
            System.arraycopy(l.lawEnd, 0, lawEnd, 0, LAWS_MOST);
            System.arraycopy(l.code, 0, code, 0, TAPE_MOST);
            towns = l.towns;
            kinds = l.kinds;
            laws = l.laws;
            boats = l.boats;
        }

        void parse(Reader r) {
            towns = 0;
            kinds = 0;
            laws = 0;
            boats = 0;
            codeSize = 0;
            for (int k = 0; k < TAPE_MOST && !r.atEnd(); k++) {
                switch (r.word()) {
                    case W_TOWN:
                        towns = namePart(r, townNames, towns);
                        break;
                    case W_KIND:
                        kinds = namePart(r, kindNames, kinds);
                        break;
                    case W_BOAT:
                        boatPart(r);
                        break;
                    case W_LAW:
                        lawPart(r);
                        break;
                    default:
                        r.fail(2);
                }
            }
        }

        /** Fails ahead of the NAME if there are too many, else at it; true if it is taken. */
        private boolean takeName(Reader r, long[] names, int many) {
            if (many < 0 || many >= names.length) {
                r.fail(6);
                return false;
            }
            r.skip();
            if (!r.isName(W_TOWN, W_DRAW)) {
                r.fail(2);
                return false;
            }
            if (isKnown(r.held())) {
                r.fail(3);
                return false;
            }
            names[many] = r.held();
            r.skip();
            return true;
        }

        private boolean isKnown(long name) {
            return placeOf(townNames, towns, name) != NONE || placeOf(kindNames, kinds, name) != NONE
                    || placeOf(lawNames, laws, name) != NONE;
        }

        static int placeOf(long[] names, int many, long name) {
            for (int k = 0; k < many && k < names.length; k++) {
                if (names[k] == name) {
                    return k;
                }
            }
            return NONE;
        }

        private int namePart(Reader r, long[] names, int many) {
            if (!takeName(r, names, many)) {
                return many;
            }
            r.need(';');
            return many + 1;
        }

        private void boatPart(Reader r) {
            if (boats >= BOATS_MOST) {
                r.fail(6);
                return;
            }
            r.skip();
            int town = placeOf(townNames, towns, r.held());
            if (!r.isName(W_TOWN, W_DRAW)) {
                r.fail(2);
            } else if (town == NONE) {
                r.fail(3);
            } else if (boatTo(town) != NONE) {
                r.fail(5);
            }
            r.skip();
            boatTown[boats] = town;
            boatYear[boats] = r.numberWithin(0, LAST_YEAR);
            boats++;
            r.need(';');
        }

        int boatTo(int town) {
            for (int b = 0; b < boats && b < BOATS_MOST; b++) {
                if (boatTown[b] == town) {
                    return b;
                }
            }
            return NONE;
        }

        private void lawPart(Reader r) {
            if (!takeName(r, lawNames, laws)) {
                return;
            }
            sumPart(r, 0);
            r.need(';');
            if (laws < LAWS_MOST) {
                lawEnd[laws] = codeSize;
                laws++;
            }
        }

        private void emit(int step) {
            if (codeSize < TAPE_MOST) {
                code[codeSize] = (short) step;
                codeSize++;
            }
        }

        private void sumPart(Reader r, int depth) {
            itemPart(r, depth);
            for (int k = 0; k < TAPE_MOST && (r.isSign('+') || r.isSign('-')); k++) {
                int step = r.isSign('+') ? ADD : SUBTRACT;
                r.skip();
                itemPart(r, depth);
                emit(step);
            }
        }

        private void itemPart(Reader r, int depth) {
            atomPart(r, depth);
            for (int k = 0; k < TAPE_MOST && (r.isSign('*') || r.isSign('/')); k++) {
                int step = r.isSign('*') ? MULTIPLY : DIVIDE;
                r.skip();
                atomPart(r, depth);
                emit(step);
            }
        }

        private void atomPart(Reader r, int depth) {
            int w = r.word();
            if (r.isNumber()) {
                emit((int) r.held());
                r.skip();
            } else if (isWithin(w, W_TOWN, W_DRAW) && w != W_BOAT && w != W_LAW) {
                emit(-1 - w);
                r.skip();
            } else if (!r.isSign('(')) {
                r.fail(2);
            } else if (depth >= BRACKETS_MOST) {
                r.fail(7);
            } else {
                r.skip();
                sumPart(r, depth + 1);
                r.need(')');
            }
        }

        /** What a LAW tells, cut to 0 and 999. */
        int wageBy(int law, int town, int year, int kind, int street, int draw) {
            int b = boatTo(town);
            variables[W_TOWN] = town;
            variables[W_KIND] = kind;
            variables[W_YEAR] = year;
            variables[W_STREET] = street;
            variables[W_HIT] = b != NONE && boatYear[b] <= year ? 1 : 0;
            variables[W_DRAW] = draw;
            return (int) Math.max(0L, Math.min(WAGE_MOST, runLaw(law)));
        }

        private long runLaw(int law) {
            if (law < 0 || law >= laws || law >= LAWS_MOST) {
                return 0;
            }
            int high = 0;
            for (int p = law == 0 ? 0 : lawEnd[law - 1]; p < lawEnd[law] && p < TAPE_MOST; p++) {
                int step = code[p];
                if (step > ADD && high < STACK) {
                    stack[high] = step >= 0 ? step : variables[-1 - step & 7];
                    high++;
                } else if (high >= 2) {
                    high--;
                    stack[high - 1] = joinedBy(step, stack[high - 1], stack[high]);
                }
            }
            return stack[0];
        }

        private static long joinedBy(int step, long a, long b) {
            switch (step) {
                case ADD:
                    return a + b;
                case SUBTRACT:
                    return a - b;
                case MULTIPLY:
                    return a * b;
                default:
                    return b == 0 ? 0 : a / b;
            }
        }
    }

    /** Whole WEIGHTS of the TOWNS beside one, by which they go as it goes. */
    private static final class Weave {
        private final Book book;
        private final Tally tally;
        private final int[] others = new int[TOWNS_MOST];
        private final int[] trial = new int[TOWNS_MOST];
        private final int[] best = new int[TOWNS_MOST];
        private final long[] prices = new long[(TOWNS_MOST + 1) * YEARS_ALL];
        private int many;
        private int among;
        private long bestSum;
        final int[] weight = new int[TOWNS_MOST];
        boolean there;
        int own;
        int n;
        int towns;
        long least;
        long gapOver;

        Weave(Book b, Tally t) {
            book = b;
            tally = t;
        }

        /** NONE, if there is none. */
        private long priceOf(int town, int year) {
            tally.pick(book, 1 << town, year, year);
            return tally.picked == 0 ? NONE : 60 * tally.total / tally.picked;
        }

        /** PRICES of one TOWN in all YEARS of BEFORE come to a row; false if one is none. */
        private boolean takePrices(int row, int town) {
            for (int year = book.sight.from; year <= book.sight.to; year++) {
                long price = priceOf(town, year);
                int at = row * YEARS_ALL + year;
                if (price < 0 || at < 0 || at >= prices.length) {
                    return false;
                }
                prices[at] = price;
            }
            return true;
        }

        /** True if there are WEIGHTS; else those found ahead stay. */
        boolean find(int town, int together) {
            many = 0;
            boolean priced = takePrices(TOWNS_MOST, town);
            for (int t = 0; t < book.land.towns && t < TOWNS_MOST; t++) {
                if (t != town && holds(book.sight.beside, t)) {
                    priced = priced && takePrices(many, t);
                    others[many] = t;
                    many++;
                }
            }
            if (!priced || many == 0) {
                return false;
            }
            among = together;
            bestSum = NONE;
            tryFrom(0, together);
            keep(town);
            return true;
        }

        private void keep(int town) {
            there = true;
            own = town;
            n = among;
            towns = book.land.towns;
            least = bestSum;
            Arrays.fill(weight, 0);
            for (int k = 0; k < many && k < TOWNS_MOST; k++) {
                weight[others[k]] = best[k];
            }
        }

        /** The greatest WEIGHT first, so that of several the first one is due. */
        private void tryFrom(int k, int rest) {
            if (k < 0 || k >= many || k >= TOWNS_MOST) {
                return;
            }
            if (k == many - 1) {
                trial[k] = rest;
                judge();
                return;
            }
            for (int w = rest; w >= 0; w--) {
                trial[k] = w;
                tryFrom(k + 1, rest - w);
            }
        }

        private void judge() {
            long squares = 0;
            for (int year = book.sight.from; year <= book.sight.to && year < YEARS_ALL; year++) {
                long d = among * prices[TOWNS_MOST * YEARS_ALL + year];
                for (int k = 0; k < many && k < TOWNS_MOST; k++) {
                    d -= trial[k] * prices[k * YEARS_ALL + year];
                }
                squares += d * d;
            }
            if (bestSum == NONE || squares < bestSum) {
                bestSum = squares;
                System.arraycopy(trial, 0, best, 0, TOWNS_MOST);
            }
        }

        /** Whether there is a GAP in a YEAR; its top is kept then. */
        boolean hasGap(int year) {
            long ownPrice = priceOf(own, year);
            if (ownPrice < 0) {
                return false;
            }
            long d = n * ownPrice;
            for (int t = 0; t < towns && t < TOWNS_MOST; t++) {
                long price = weight[t] > 0 ? priceOf(t, year) : 0;
                if (price < 0) {
                    return false;
                }
                d -= weight[t] * price;
            }
            gapOver = d;
            return true;
        }
    }

    /** STEPS; of a beginning, where the STEPS up to its end stop. */
    private static final class Ways {
        private static final int BEGINNINGS_MOST = 3;

        final byte[] step = new byte[STEPS_MOST];
        final short[] first = new short[STEPS_MOST];
        final byte[] second = new byte[STEPS_MOST];
        final byte[] stop = new byte[STEPS_MOST];
        private final int[] open = new int[BEGINNINGS_MOST];
        private int depth;
        int steps;

        void copy(Ways w) {
            System.arraycopy(w.step, 0, step, 0, STEPS_MOST);
            System.arraycopy(w.first, 0, first, 0, STEPS_MOST);
            System.arraycopy(w.second, 0, second, 0, STEPS_MOST);
            System.arraycopy(w.stop, 0, stop, 0, STEPS_MOST);
            steps = w.steps;
        }

        void parse(Reader r, Land land) {
            steps = 0;
            depth = 0;
            for (int k = 0; k < TAPE_MOST && !r.atEnd(); k++) {
                if (r.word() == W_END) {
                    endPart(r);
                } else {
                    stepPart(r, land);
                }
            }
            if (depth > 0) {
                r.fail(2);
            }
        }

        private void endPart(Reader r) {
            if (depth < 1 || depth > BEGINNINGS_MOST) {
                r.fail(2);
                return;
            }
            depth--;
            int begun = open[depth];
            if (begun >= 0 && begun < STEPS_MOST) {
                stop[begun] = (byte) steps;
            }
            r.skip();
            r.need(';');
        }

        private void stepPart(Reader r, Land land) {
            int w = r.word();
            boolean begins = w == W_EACH || w == W_LEAST;
            if (!isWithin(w, W_BESIDE, W_LEAST)) {
                r.fail(2);
                return;
            }
            if (steps >= STEPS_MOST) {
                r.fail(6);
                return;
            }
            if (begins && depth >= BEGINNINGS_MOST) {
                r.fail(7);
                return;
            }
            r.skip();
            step[steps] = (byte) w;
            readRest(r, land, w);
            r.need(';');
            if (begins) {
                open[depth] = steps;
                depth++;
            }
            steps++;
        }

        /** What stands between a STEP's WORD and its end. */
        private void readRest(Reader r, Land land, int w) {
            if (steps >= STEPS_MOST) {
                return;
            }
            if (w == W_BESIDE) {
                first[steps] = (short) r.nameSet(land.townNames, land.towns, W_BESIDE, W_LEAST);
            } else if (w == W_CUT) {
                first[steps] = (short) r.nameSet(land.kindNames, land.kinds, W_BESIDE, W_LEAST);
            } else if (w == W_STREETS) {
                first[steps] = (short) streetSet(r);
            } else if (w == W_BEFORE || w == W_AFTER) {
                first[steps] = (short) r.numberWithin(0, LAST_YEAR);
                second[steps] = (byte) r.numberWithin(first[steps], LAST_YEAR);
            } else if (w == W_LEAST) {
                first[steps] = (short) r.numberWithin(0, 9999);
            }
        }

        private static int streetSet(Reader r) {
            int set = 1 << r.numberWithin(0, STREETS_MOST - 1);
            for (int k = 0; k < TAPE_MOST && r.isNumber(); k++) {
                set |= 1 << r.numberWithin(0, STREETS_MOST - 1);
            }
            return set;
        }
    }

    /** WAYS as they are done, and what came of them. */
    private static final class Writing {
        private static final int DONE_MOST = 200;
        private static final int ROUNDS_MOST = 9;

        private final Book book;
        private final Tally tally;
        private final Sight kept = new Sight();
        private int own;
        boolean there;
        int tries;
        int farthestTry;
        final Fraction farthest = new Fraction();
        int done;
        boolean isCutOff;

        Writing(Book b, Tally t) {
            book = b;
            tally = t;
        }

        void run(int town) {
            own = town;
            there = true;
            tries = 0;
            farthestTry = 0;
            farthest.put(0, 1);
            done = 0;
            isCutOff = false;
            kept.copy(book.sight);
            doSteps(0, book.ways.steps, 0);
            book.sight.copy(kept);
        }

        private void doSteps(int from, int to, int depth) {
            if (depth > Ways.BEGINNINGS_MOST) {
                return;
            }
            int i = from;
            for (int k = 0; k < STEPS_MOST && i >= 0 && i < to && i < STEPS_MOST && !isCutOff; k++) {
                if (done >= DONE_MOST) {
                    isCutOff = true;
                } else {
                    done++;
                    i = doStep(i, depth);
                }
            }
        }

        /** The place of the STEP behind. */
        private int doStep(int i, int depth) {
            Ways w = book.ways;
            if (i < 0 || i >= STEPS_MOST) {
                return STEPS_MOST;
            }
            switch (w.step[i]) {
                case W_EACH:
                    doEach(i, depth);
                    return w.stop[i];
                case W_LEAST:
                    for (int k = 0; k < ROUNDS_MOST && !isReached(w.first[i]) && !isCutOff; k++) {
                        doSteps(i + 1, w.stop[i], depth + 1);
                    }
                    return w.stop[i];
                case W_TRY:
                    doTry();
                    return i + 1;
                default:
                    changeSight(w.step[i], w.first[i], w.second[i]);
                    return i + 1;
            }
        }

        private void doEach(int i, int depth) {
            int ahead = book.sight.cut;
            for (int kind = 0; kind < book.land.kinds && !isCutOff; kind++) {
                book.sight.cut = 1 << kind;
                doSteps(i + 1, book.ways.stop[i], depth + 1);
            }
            book.sight.cut = ahead;
        }

        /** Whether a TRY so far has a size of n or more. */
        private boolean isReached(long n) {
            return tries > 0 && Math.abs(farthest.over) >= n * farthest.under;
        }

        private void doTry() {
            if (!tally.take(book, book.sight, own)) {
                return;
            }
            if (tries == 0 || farthest.isPassedBy(tally.over(), tally.under())) {
                farthestTry = tries;
                farthest.put(tally.over(), tally.under());
            }
            tries++;
        }

        private void changeSight(int step, int first, int second) {
            Sight s = book.sight;
            switch (step) {
                case W_BESIDE:
                    s.beside = first & allOf(book.land.towns);
                    break;
                case W_CUT:
                    s.cut = first & allOf(book.land.kinds);
                    break;
                case W_STREETS:
                    s.streets = first;
                    break;
                case W_BEFORE:
                    s.putBefore(first, second);
                    break;
                case W_AFTER:
                    s.putAfter(first, second);
                    break;
                case W_WAGES:
                case W_RENTS:
                    s.rents = step == W_RENTS;
                    break;
                default:
                    break;
            }
        }
    }

    /** CLAIMS, and how they are joined, as steps on a stack. */
    private static final class Line {
        private static final int NOT = -1;
        private static final int AND = -2;
        private static final int OR = -3;
        private static final int WITHIN_MOST = 6;

        final byte[] claim = new byte[CLAIMS_MOST];
        final short[] size = new short[CLAIMS_MOST];
        final byte[] kinds = new byte[CLAIMS_MOST];
        final byte[] least = new byte[CLAIMS_MOST];
        private final byte[] code = new byte[TEXT_MOST];
        private final int[] stack = new int[CLAIMS_MOST];
        private int codeSize;
        int claims;

        void copy(Line l) {
            System.arraycopy(l.claim, 0, claim, 0, CLAIMS_MOST);
            System.arraycopy(l.size, 0, size, 0, CLAIMS_MOST);
            System.arraycopy(l.kinds, 0, kinds, 0, CLAIMS_MOST);
            System.arraycopy(l.least, 0, least, 0, CLAIMS_MOST);
            System.arraycopy(l.code, 0, code, 0, TEXT_MOST);
            codeSize = l.codeSize;
            claims = l.claims;
        }

        void parse(Reader r, Land land) {
            claims = 0;
            codeSize = 0;
            eitherPart(r, land, 0);
            r.need(';');
            if (!r.atEnd()) {
                r.fail(2);
            }
        }

        private void emit(int step) {
            if (codeSize < TEXT_MOST) {
                code[codeSize] = (byte) step;
                codeSize++;
            }
        }

        private void eitherPart(Reader r, Land land, int depth) {
            bothPart(r, land, depth);
            for (int k = 0; k < TEXT_MOST && r.word() == W_OR; k++) {
                r.skip();
                bothPart(r, land, depth);
                emit(OR);
            }
        }

        private void bothPart(Reader r, Land land, int depth) {
            onePart(r, land, depth);
            for (int k = 0; k < TEXT_MOST && r.word() == W_AND; k++) {
                r.skip();
                onePart(r, land, depth);
                emit(AND);
            }
        }

        private void onePart(Reader r, Land land, int depth) {
            int w = r.word();
            boolean oneTooMany = isWithin(w, W_FELL, W_HELD) && claims >= CLAIMS_MOST;
            if (!r.isSign('(') && !isWithin(w, W_NOT, W_HELD)) {
                r.fail(2);
            } else if (oneTooMany) {
                r.fail(6);
            } else if (depth >= WITHIN_MOST) {
                r.fail(7);
            } else if (w == W_NOT) {
                r.skip();
                onePart(r, land, depth + 1);
                emit(NOT);
            } else if (r.isSign('(')) {
                r.skip();
                eitherPart(r, land, depth + 1);
                r.need(')');
            } else {
                claimPart(r, land, w);
            }
        }

        private void claimPart(Reader r, Land land, int w) {
            if (claims >= CLAIMS_MOST) {
                return;
            }
            r.skip();
            claim[claims] = (byte) w;
            size[claims] = (short) r.numberWithin(0, 9999);
            kinds[claims] = 0;
            least[claims] = 1;
            if (r.word() == W_OF) {
                r.skip();
                kinds[claims] = (byte) r.nameSet(land.kindNames, land.kinds, W_LEAST, W_OF);
            }
            if (r.word() == W_LEAST) {
                r.skip();
                least[claims] = (byte) r.numberWithin(1, SHEETS_MOST);
            }
            emit(claims);
            claims++;
        }

        /** What a CLAIM is by the four MEANS: 2, 1, 0. */
        int valueOf(int c, Tally t) {
            if (c < 0 || c >= CLAIMS_MOST || !t.hasEach(least[c])) {
                return 1;
            }
            long d = t.over();
            long bound = size[c] * t.under();
            boolean isSo = claim[c] == W_FELL && d <= -bound || claim[c] == W_ROSE && d >= bound
                    || claim[c] == W_HELD && Math.abs(d) <= bound;
            return isSo ? 2 : 0;
        }

        /** What the LINE is if its CLAIMS have these values. */
        int valueBy(int[] values) {
            int high = 0;
            for (int p = 0; p < codeSize && p < TEXT_MOST; p++) {
                int step = code[p];
                if (step >= 0 && step < values.length && high < CLAIMS_MOST) {
                    stack[high] = values[step];
                    high++;
                } else if (step == NOT && high >= 1) {
                    stack[high - 1] = 2 - stack[high - 1];
                } else if (high >= 2) {
                    high--;
                    int a = stack[high - 1];
                    stack[high - 1] = step == AND ? Math.min(a, stack[high]) : Math.max(a, stack[high]);
                }
            }
            return stack[0];
        }
    }

    /** What the LINE is, and would be without a SHEET or two. */
    private static final class Turning {
        private final Book book;
        private final Tally trial = new Tally();
        private final int[] count = new int[CLAIMS_MOST * GROUPS];
        private final int[] sum = new int[CLAIMS_MOST * GROUPS];
        private final int[] values = new int[CLAIMS_MOST];
        private final int[] group = new int[SHEETS_MOST];
        private final int[] saying = new int[SHEETS_MOST];
        private final boolean[] matters = new boolean[SHEETS_MOST];
        int found;
        int first;
        int second;

        Turning(Book b) {
            book = b;
        }

        int valueNow(int town) {
            prepare(town);
            return valueWithout(NONE, NONE);
        }

        private void prepare(int town) {
            Sight s = book.sight;
            boolean overlaps = s.overlaps();
            Arrays.fill(count, 0);
            Arrays.fill(sum, 0);
            for (int i = 0; i < book.sheets && i < SHEETS_MOST; i++) {
                saying[i] = s.saidBy(book, i, allOf(KINDS_MOST));
                // Without a DIFFER no SHEET is of its MEANS, and all CLAIMS are UNSAID.
                group[i] = saying[i] < 0 || overlaps ? NONE : s.groupOf(book, i, town);
                matters[i] = false;
                for (int c = 0; c < book.line.claims && c < CLAIMS_MOST; c++) {
                    if (isOf(c, i)) {
                        count[c * GROUPS + group[i]]++;
                        sum[c * GROUPS + group[i]] += saying[i];
                        matters[i] = true;
                    }
                }
            }
        }

        /** Whether a SHEET is of one of the four MEANS of a CLAIM. */
        private boolean isOf(int c, int i) {
            if (i < 0 || i >= SHEETS_MOST || group[i] < 0 || group[i] >= GROUPS || c < 0 || c >= CLAIMS_MOST) {
                return false;
            }
            int own = book.line.kinds[c];
            return holds(own == 0 ? book.sight.cut : own, book.cell(i, CELL_KIND));
        }

        private int valueWithout(int i, int j) {
            for (int c = 0; c < book.line.claims && c < CLAIMS_MOST; c++) {
                for (int g = 0; g < GROUPS; g++) {
                    trial.count[g] = count[c * GROUPS + g];
                    trial.sum[g] = sum[c * GROUPS + g];
                }
                drop(c, i);
                drop(c, j);
                values[c] = book.line.valueOf(c, trial);
            }
            return book.line.valueBy(values);
        }

        private void drop(int c, int i) {
            if (isOf(c, i)) {
                trial.count[group[i]]--;
                trial.sum[group[i]] -= saying[i];
            }
        }

        /** True if one or two SHEETS turn it; else what was found ahead stays. */
        boolean find(int town) {
            int now = valueNow(town);
            for (int i = 0; i < book.sheets && i < SHEETS_MOST; i++) {
                if (matters[i] && valueWithout(i, NONE) != now) {
                    return keep(1, i, NONE);
                }
            }
            // A pair with one that does not matter turns no more than the other one alone.
            for (int i = 0; i < book.sheets && i < SHEETS_MOST; i++) {
                for (int j = i + 1; matters[i] && j < book.sheets && j < SHEETS_MOST; j++) {
                    if (matters[j] && valueWithout(i, j) != now) {
                        return keep(2, i, j);
                    }
                }
            }
            return false;
        }

        private boolean keep(int many, int one, int two) {
            found = many;
            first = one;
            second = two;
            return true;
        }
    }
}
