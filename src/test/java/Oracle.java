import java.math.BigInteger;
import java.util.ArrayList;
import java.util.List;
import java.util.Set;

/**
 * The document again, written plainly and on its own: whole fractions of any size, texts as trees, each number
 * counted anew from the sheets at every call. FuzzTest holds MayBoats against it.
 */
public final class Oracle {
    static final int NONE = -1;

    // ---- fractions

    record Q(BigInteger top, BigInteger bottom) {
        static Q of(long a, long b) {
            return of(BigInteger.valueOf(a), BigInteger.valueOf(b));
        }

        static Q of(BigInteger a, BigInteger b) {
            BigInteger g = a.gcd(b);
            if (b.signum() < 0) {
                g = g.negate();
            }
            return new Q(a.divide(g), b.divide(g));
        }

        Q plus(Q o) {
            return of(top.multiply(o.bottom).add(o.top.multiply(bottom)), bottom.multiply(o.bottom));
        }

        Q minus(Q o) {
            return plus(o.times(of(-1, 1)));
        }

        Q times(Q o) {
            return of(top.multiply(o.top), bottom.multiply(o.bottom));
        }

        Q by(Q o) {
            return of(top.multiply(o.bottom), bottom.multiply(o.top));
        }

        Q size() {
            return new Q(top.abs(), bottom);
        }

        int compareTo(Q o) {
            return top.multiply(o.bottom).compareTo(o.top.multiply(bottom));
        }

        long floor() {
            BigInteger[] d = top.divideAndRemainder(bottom);
            return d[1].signum() < 0 ? d[0].longValueExact() - 1 : d[0].longValueExact();
        }
    }

    // ---- what there is

    record Sheet(int town, int year, int kind, int street, int wage, int rent) {
        Sheet saying(int w, int r) {
            return new Sheet(town, year, kind, street, w, r);
        }
    }

    record Boat(int town, int year) {
    }

    record Sight(int beside, int cut, int streets, int from, int to, int then, int till, boolean rents) {
        Sight beside(int b) {
            return new Sight(b, cut, streets, from, to, then, till, rents);
        }

        Sight cut(int c) {
            return new Sight(beside, c, streets, from, to, then, till, rents);
        }

        Sight streets(int s) {
            return new Sight(beside, cut, s, from, to, then, till, rents);
        }

        Sight before(int a, int b) {
            return new Sight(beside, cut, streets, a, b, then, till, rents);
        }

        Sight after(int a, int b) {
            return new Sight(beside, cut, streets, from, to, a, b, rents);
        }

        Sight rents(boolean r) {
            return new Sight(beside, cut, streets, from, to, then, till, r);
        }
    }

    interface Sum {
        long value(long[] variables);
    }

    record Land(List<String> towns, List<String> kinds, List<Boat> boats, List<String> lawNames, List<Sum> laws) {
    }

    record Step(String word, int set, int a, int b, List<Step> inner) {
    }

    record Claim(String word, int number, int kinds, int least) {
    }

    record Logic(String word, Logic left, Logic right, Claim claim) {
    }

    record State(Land land, List<Sheet> sheets, Sight sight, List<Step> ways, Logic line) {
    }

    record Weave(int[] weights, int own, int n, int towns) {
    }

    private Land land = new Land(List.of(), List.of(), List.of(), List.of(), List.of());
    private List<Sheet> sheets = new ArrayList<>();
    private Sight sight = firstSight();
    private List<Step> ways = List.of();
    private Logic line;
    private final List<State> marks = new ArrayList<>();
    private final long[][] trays = new long[4][];
    private final int[] sorts = new int[4];
    private final List<Integer> tape = new ArrayList<>();
    private int status;
    private Q fraction = Q.of(0, 1);
    private int faultKind = NONE;
    private int faultPlace = NONE;
    private Weave weave;
    private List<Integer> turned = List.of();
    private boolean wrote;
    private List<Q> tries;
    private int done;
    private boolean cutOff;

    private Sight firstSight() {
        int t = (1 << land.towns.size()) - 1;
        int k = (1 << land.kinds.size()) - 1;
        return new Sight(t, k, 15, 0, 5, 6, 11, false);
    }

    // ---- answers

    private int none(int why) {
        status = why;
        return NONE;
    }

    private boolean no(int why) {
        status = why;
        return false;
    }

    private int give(int v) {
        status = 0;
        return v;
    }

    private boolean yes() {
        status = 0;
        return true;
    }

    private boolean tell(Q q) {
        if (q == null) {
            return no(8);
        }
        fraction = q;
        return yes();
    }

    public int status() {
        return status;
    }

    public long top() {
        return fraction.top.longValueExact();
    }

    public long bottom() {
        return fraction.bottom.longValueExact();
    }

    private static boolean in(long v, long a, long b) {
        return a <= v && v <= b;
    }

    // ---- trays

    public boolean tray(int tray, int sort, int many) {
        if (!in(tray, 0, 3) || !in(sort, 0, 3)) {
            return no(1);
        }
        if (many > 60) {
            return no(5);
        }
        if (many < 0) {
            return no(6);
        }
        trays[tray] = new long[many];
        sorts[tray] = sort;
        return yes();
    }

    public boolean write(int tray, int place, long v) {
        if (!in(tray, 0, 3)) {
            return no(1);
        }
        if (trays[tray] == null) {
            return no(3);
        }
        if (!in(place, 0, trays[tray].length - 1)) {
            return no(4);
        }
        int away = 64 - (8 << sorts[tray]);
        trays[tray][place] = v << away >> away;
        return yes();
    }

    public long read(int tray, int place) {
        if (!in(tray, 0, 3)) {
            return none(1);
        }
        if (trays[tray] == null) {
            return none(3);
        }
        if (!in(place, 0, trays[tray].length - 1)) {
            return none(4);
        }
        status = 0;
        return trays[tray][place];
    }

    public boolean pour(int tray, int i, int to, int j, int many) {
        if (!in(tray, 0, 3) || !in(to, 0, 3)) {
            return no(1);
        }
        if (trays[tray] == null || trays[to] == null) {
            return no(3);
        }
        if (sorts[tray] != sorts[to]) {
            return no(11);
        }
        if (many < 0) {
            return no(6);
        }
        if (i < 0 || j < 0 || (long) i + many > trays[tray].length || (long) j + many > trays[to].length) {
            return no(4);
        }
        long[] old = trays[tray].clone();
        for (int k = 0; k < many; k++) {
            trays[to][j + k] = old[i + k];
        }
        return yes();
    }

    // ---- texts

    static final class Fault extends RuntimeException {
        final int kind;
        final int place;

        Fault(int kind, int place) {
            this.kind = kind;
            this.place = place;
        }
    }

    /** A text that is read from its front. */
    static final class Text {
        final String s;
        int p;

        Text(String s) {
            this.s = s;
            blanks();
        }

        private void blanks() {
            while (p < s.length() && (s.charAt(p) == ' ' || s.charAt(p) == '\n')) {
                p++;
            }
        }

        private int stretch(String sort) {
            int q = p;
            while (q < s.length() && String.valueOf(s.charAt(q)).matches(sort)) {
                q++;
            }
            return q;
        }

        /** The TOKEN here, "" at the end. */
        String peek() {
            if (p == s.length()) {
                return "";
            }
            int word = stretch("[a-z]");
            int number = stretch("[0-9]");
            if (word > p) {
                return s.substring(p, word);
            }
            if (number > p && number - p <= 4) {
                return s.substring(p, number);
            }
            if (";+-*/()".indexOf(s.charAt(p)) >= 0) {
                return s.substring(p, p + 1);
            }
            throw new Fault(1, p);
        }

        Fault fault(int kind) {
            return new Fault(kind, p);
        }

        String take() {
            String t = peek();
            p += t.length();
            blanks();
            return t;
        }

        void need(String t) {
            if (!peek().equals(t)) {
                throw fault(2);
            }
            take();
        }

        boolean isNumber() {
            return peek().matches("[0-9]+");
        }

        int number(int least, int greatest) {
            if (!isNumber()) {
                throw fault(2);
            }
            int v = Integer.parseInt(peek());
            if (!in(v, least, greatest)) {
                throw fault(4);
            }
            take();
            return v;
        }

        boolean isName(Set<String> none) {
            return peek().matches("[a-z]{1,8}") && !none.contains(peek()) && !LAND_WORDS.contains(peek());
        }
    }

    static final Set<String> LAND_WORDS = Set.of("town", "kind", "boat", "law", "year", "street", "hit", "draw");
    static final Set<String> WAYS_WORDS = Set.of("beside", "cut", "streets", "before", "after", "wages", "rents",
            "try", "each", "end", "least");
    static final Set<String> LINE_WORDS = Set.of("or", "and", "not", "fell", "rose", "held", "of", "least");
    static final List<String> VARIABLES = List.of("town", "year", "kind", "street", "hit", "draw");

    public int feed(int a, int b, int c, int d, int e) {
        if (tape.size() + 20 > 600) {
            return NONE;
        }
        for (int v : new int[] {a, b, c, d, e}) {
            tape.add(v >>> 24);
            tape.add(v >>> 16 & 255);
            tape.add(v >>> 8 & 255);
            tape.add(v & 255);
        }
        return tape.size();
    }

    private Text text(int n) {
        StringBuilder b = new StringBuilder();
        for (int i = 0; i < n; i++) {
            b.append((char) (int) tape.get(i));
        }
        tape.clear();
        return new Text(b.toString());
    }

    private int failed(Fault f) {
        faultKind = f.kind;
        faultPlace = f.place;
        return none(10);
    }

    private int passed(int v) {
        faultKind = 0;
        faultPlace = NONE;
        return give(v);
    }

    public int fault(int what) {
        return what == 0 ? faultKind : what == 1 ? faultPlace : NONE;
    }

    public int land(int n) {
        if (n < 0 || n > tape.size()) {
            return none(5);
        }
        Text t = text(n);
        Land l = new Land(new ArrayList<>(), new ArrayList<>(), new ArrayList<>(), new ArrayList<>(),
                new ArrayList<>());
        try {
            while (!t.peek().isEmpty()) {
                part(t, l);
            }
        } catch (Fault f) {
            return failed(f);
        }
        land = l;
        sheets = new ArrayList<>();
        sight = firstSight();
        return passed(l.towns.size());
    }

    private static String newName(Text t, Land l) {
        if (!t.isName(Set.of())) {
            throw t.fault(2);
        }
        if (l.towns.contains(t.peek()) || l.kinds.contains(t.peek()) || l.lawNames.contains(t.peek())) {
            throw t.fault(3);
        }
        return t.take();
    }

    private static void part(Text t, Land l) {
        String w = t.peek();
        List<?> those = switch (w) {
            case "town" -> l.towns;
            case "kind" -> l.kinds;
            case "boat" -> l.boats;
            case "law" -> l.lawNames;
            default -> throw t.fault(2);
        };
        if (those.size() == (w.equals("boat") ? 3 : w.equals("law") ? 4 : 6)) {
            throw t.fault(6);
        }
        t.take();
        switch (w) {
            case "town" -> l.towns.add(newName(t, l));
            case "kind" -> l.kinds.add(newName(t, l));
            case "boat" -> boatPart(t, l);
            default -> {
                l.lawNames.add(newName(t, l));
                l.laws.add(sum(t, 0));
            }
        }
        t.need(";");
    }

    private static void boatPart(Text t, Land l) {
        if (!t.isName(Set.of())) {
            throw t.fault(2);
        }
        int town = l.towns.indexOf(t.peek());
        if (town < 0) {
            throw t.fault(3);
        }
        for (Boat b : l.boats) {
            if (b.town == town) {
                throw t.fault(5);
            }
        }
        t.take();
        l.boats.add(new Boat(town, t.number(0, 11)));
    }

    private static Sum sum(Text t, int depth) {
        Sum left = item(t, depth);
        while (t.peek().equals("+") || t.peek().equals("-")) {
            boolean plus = t.take().equals("+");
            Sum a = left;
            Sum b = item(t, depth);
            left = v -> plus ? a.value(v) + b.value(v) : a.value(v) - b.value(v);
        }
        return left;
    }

    private static Sum item(Text t, int depth) {
        Sum left = atom(t, depth);
        while (t.peek().equals("*") || t.peek().equals("/")) {
            boolean times = t.take().equals("*");
            Sum a = left;
            Sum b = atom(t, depth);
            left = v -> times ? a.value(v) * b.value(v) : b.value(v) == 0 ? 0 : a.value(v) / b.value(v);
        }
        return left;
    }

    private static Sum atom(Text t, int depth) {
        if (t.isNumber()) {
            long n = t.number(0, 9999);
            return v -> n;
        }
        int variable = VARIABLES.indexOf(t.peek());
        if (variable >= 0) {
            t.take();
            return v -> v[variable];
        }
        if (!t.peek().equals("(")) {
            throw t.fault(2);
        }
        if (depth == 6) {
            throw t.fault(7);
        }
        t.take();
        Sum inner = sum(t, depth + 1);
        t.need(")");
        return inner;
    }

    public int many(int what) {
        return switch (what) {
            case 0 -> give(land.towns.size());
            case 1 -> give(land.kinds.size());
            case 2 -> give(land.boats.size());
            case 3 -> give(land.laws.size());
            case 4 -> give(sheets.size());
            default -> none(5);
        };
    }

    private boolean town(int t) {
        return in(t, 0, land.towns.size() - 1);
    }

    private boolean isBoat(int b) {
        return in(b, 0, land.boats.size() - 1);
    }

    private boolean law(int l) {
        return in(l, 0, land.laws.size() - 1);
    }

    public int boat(int boat, int what) {
        if (!isBoat(boat)) {
            return none(2);
        }
        return what == 0 ? give(land.boats.get(boat).town) : what == 1 ? give(land.boats.get(boat).year) : none(5);
    }

    private int wage(int law, int town, int year, int kind, int street, int draw) {
        int hit = 0;
        for (Boat b : land.boats) {
            if (b.town == town && b.year <= year) {
                hit = 1;
            }
        }
        long v = land.laws.get(law).value(new long[] {town, year, kind, street, hit, draw});
        return v < 0 ? 0 : v > 999 ? 999 : (int) v;
    }

    public int tells(int law, int town, int year, int kind, int street, int draw) {
        if (!law(law) || !town(town) || !in(kind, 0, land.kinds.size() - 1)) {
            return none(2);
        }
        if (!in(year, 0, 11) || !in(street, 0, 3) || !in(draw, 0, 99)) {
            return none(5);
        }
        return give(wage(law, town, year, kind, street, draw));
    }

    // ---- sheets and sight

    public int sheet(int tray) {
        if (!in(tray, 0, 3)) {
            return none(1);
        }
        if (trays[tray] == null) {
            return none(3);
        }
        long[] t = trays[tray];
        if (t.length < 6) {
            return none(4);
        }
        if (!in(t[0], 0, land.towns.size() - 1) || !in(t[1], 0, 11) || !in(t[2], 0, land.kinds.size() - 1)
                || !in(t[3], 0, 3) || !in(t[4], -1, 999) || !in(t[5], -1, 999)) {
            return none(5);
        }
        if (sheets.size() == 60) {
            return none(7);
        }
        sheets.add(new Sheet((int) t[0], (int) t[1], (int) t[2], (int) t[3], (int) t[4], (int) t[5]));
        return give(sheets.size() - 1);
    }

    public int look(int sheet, int what) {
        if (!in(sheet, 0, sheets.size() - 1)) {
            return none(2);
        }
        if (!in(what, 0, 5)) {
            return none(5);
        }
        Sheet s = sheets.get(sheet);
        int v = new int[] {s.town, s.year, s.kind, s.street, s.wage, s.rent}[what];
        return v == -1 ? none(8) : give(v);
    }

    public boolean say(int sheet, boolean rent, int v) {
        if (!in(sheet, 0, sheets.size() - 1)) {
            return no(2);
        }
        if (!in(v, -1, 999)) {
            return no(5);
        }
        Sheet s = sheets.get(sheet);
        sheets.set(sheet, rent ? s.saying(s.wage, v) : s.saying(v, s.rent));
        return yes();
    }

    private static boolean isSet(int set, int many) {
        return set >= 0 && set < 1 << many;
    }

    public boolean beside(int towns) {
        if (!isSet(towns, land.towns.size())) {
            return no(2);
        }
        sight = sight.beside(towns);
        return yes();
    }

    public boolean cut(int kinds, int streets) {
        if (!isSet(kinds, land.kinds.size())) {
            return no(2);
        }
        if (!isSet(streets, 4)) {
            return no(5);
        }
        sight = sight.cut(kinds).streets(streets);
        return yes();
    }

    public boolean years(int from, int to, int then, int till) {
        for (int y : new int[] {from, to, then, till}) {
            if (!in(y, 0, 11)) {
                return no(5);
            }
        }
        if (to < from || till < then) {
            return no(5);
        }
        sight = sight.before(from, to).after(then, till);
        return yes();
    }

    public boolean rents(boolean are) {
        sight = sight.rents(are);
        return yes();
    }

    public int sight(int what) {
        int[] all = {sight.beside, sight.cut, sight.streets, sight.from, sight.to, sight.then, sight.till,
            sight.rents ? 1 : 0};
        return in(what, 0, 7) ? give(all[what]) : none(5);
    }

    private static boolean has(int set, int k) {
        return (set >> k) % 2 != 0;
    }

    private static int said(Sheet s, Sight by) {
        return by.rents ? s.rent : s.wage;
    }

    /** What all say that COUNT for some TOWNS and YEARS. */
    private List<Integer> told(List<Sheet> of, Sight by, int towns, int from, int to) {
        List<Integer> all = new ArrayList<>();
        for (Sheet s : of) {
            if (has(towns, s.town) && in(s.year, from, to) && has(by.cut, s.kind) && has(by.streets, s.street)
                    && said(s, by) != -1) {
                all.add(said(s, by));
            }
        }
        return all;
    }

    private static Q mean(List<Integer> all) {
        if (all.isEmpty()) {
            return null;
        }
        long sum = 0;
        for (int v : all) {
            sum += v;
        }
        return Q.of(sum, all.size());
    }

    public int counts(int town, int from, int to) {
        if (!town(town)) {
            return none(2);
        }
        if (!in(from, 0, 11) || !in(to, from, 11)) {
            return none(5);
        }
        return give(told(sheets, sight, 1 << town, from, to).size());
    }

    public boolean mean(int town, int from, int to) {
        if (!town(town)) {
            return no(2);
        }
        if (!in(from, 0, 11) || !in(to, from, 11)) {
            return no(5);
        }
        return tell(mean(told(sheets, sight, 1 << town, from, to)));
    }

    // ---- differ

    private static boolean overlap(Sight by) {
        for (int y = 0; y < 12; y++) {
            if (in(y, by.from, by.to) && in(y, by.then, by.till)) {
                return true;
            }
        }
        return false;
    }

    /** Own BEFORE, own AFTER, the others' BEFORE, the others' AFTER. */
    private List<List<Integer>> four(List<Sheet> of, Sight by, int town) {
        int others = by.beside & ~(1 << town);
        return List.of(told(of, by, 1 << town, by.from, by.to), told(of, by, 1 << town, by.then, by.till),
                told(of, by, others, by.from, by.to), told(of, by, others, by.then, by.till));
    }

    private static Q differ(List<List<Integer>> four, Sight by, int least) {
        for (List<Integer> g : four) {
            if (g.size() < least || g.isEmpty()) {
                return null;
            }
        }
        if (overlap(by)) {
            return null;
        }
        Q own = mean(four.get(1)).minus(mean(four.get(0)));
        return own.minus(mean(four.get(3)).minus(mean(four.get(2))));
    }

    private Q differ(List<Sheet> of, Sight by, int town, int least) {
        return differ(four(of, by, town), by, least);
    }

    private Q differ(Sight by, int town) {
        return differ(sheets, by, town, 1);
    }

    private int boatTown(int boat) {
        return land.boats.get(boat).town;
    }

    public boolean differ(int town) {
        return town(town) ? tell(differ(sight, town)) : no(2);
    }

    private int[] farAndPlayed(int boat) {
        Q own = differ(sight, boatTown(boat));
        if (own == null) {
            return null;
        }
        int far = 0;
        int played = 0;
        for (int t = 0; t < land.towns.size(); t++) {
            boolean struck = false;
            for (Boat b : land.boats) {
                struck |= b.town == t;
            }
            if (struck || !has(sight.beside, t)) {
                continue;
            }
            Q d = differ(sight.beside(sight.beside & ~(1 << boatTown(boat))), t);
            if (d != null) {
                played++;
                far += d.size().compareTo(own.size()) >= 0 ? 1 : 0;
            }
        }
        return new int[] {far, played};
    }

    public int far(int boat) {
        if (!isBoat(boat)) {
            return none(2);
        }
        int[] f = farAndPlayed(boat);
        return f == null ? none(8) : give(f[0]);
    }

    public boolean chance(int boat) {
        if (!isBoat(boat)) {
            return no(2);
        }
        int[] f = farAndPlayed(boat);
        return tell(f == null ? null : Q.of(f[0] + 1, f[1] + 1));
    }

    private Long price(int town, int year) {
        List<Integer> all = told(sheets, sight, 1 << town, year, year);
        return all.isEmpty() ? null : mean(all).times(Q.of(60, 1)).floor();
    }

    public long weave(int boat, int n) {
        if (!isBoat(boat)) {
            return none(2);
        }
        if (!in(n, 1, 8)) {
            return none(5);
        }
        int own = boatTown(boat);
        int others = sight.beside & ~(1 << own);
        if (others == 0) {
            return none(8);
        }
        for (int t = 0; t < land.towns.size(); t++) {
            for (int y = sight.from; y <= sight.to; y++) {
                if (has(others | 1 << own, t) && price(t, y) == null) {
                    return none(8);
                }
            }
        }
        long[][] prices = new long[6][12];
        for (int t = 0; t < land.towns.size(); t++) {
            for (int y = sight.from; y <= sight.to; y++) {
                prices[t][y] = has(others | 1 << own, t) ? price(t, y) : 0;
            }
        }
        long best = Long.MAX_VALUE;
        int[] found = null;
        // All rows of six digits 0 to n, the greatest first.
        int all = (int) Math.round(Math.pow(n + 1, 6));
        for (int code = all - 1; code >= 0; code--) {
            int[] w = new int[6];
            int sum = 0;
            int rest = code;
            boolean fits = true;
            for (int t = 5; t >= 0; t--) {
                w[t] = rest % (n + 1);
                rest /= n + 1;
                sum += w[t];
                fits &= w[t] == 0 || has(others, t);
            }
            if (!fits || sum != n) {
                continue;
            }
            long squares = 0;
            for (int y = sight.from; y <= sight.to; y++) {
                long d = n * prices[own][y];
                for (int t = 0; t < 6; t++) {
                    d -= w[t] * prices[t][y];
                }
                squares += d * d;
            }
            if (squares < best) {
                best = squares;
                found = w;
            }
        }
        weave = new Weave(found, own, n, land.towns.size());
        status = 0;
        return best;
    }

    public int woven(int town) {
        if (weave == null) {
            return none(8);
        }
        return in(town, 0, weave.towns - 1) ? give(weave.weights[town]) : none(2);
    }

    public boolean gap(int year) {
        if (!in(year, 0, 11)) {
            return no(5);
        }
        if (weave == null) {
            return no(8);
        }
        if (weave.towns != land.towns.size()) {
            return no(9);
        }
        if (price(weave.own, year) == null) {
            return no(8);
        }
        long d = weave.n * price(weave.own, year);
        for (int t = 0; t < weave.towns; t++) {
            if (weave.weights[t] > 0) {
                if (price(t, year) == null) {
                    return no(8);
                }
                d -= weave.weights[t] * price(t, year);
            }
        }
        return tell(Q.of(d, 60L * weave.n));
    }

    public int cuts(int boat, int sheetsLeast, int below) {
        if (!isBoat(boat)) {
            return none(2);
        }
        if (!in(sheetsLeast, 1, 60) || !in(below, -9999, 9999)) {
            return none(5);
        }
        int n = 0;
        for (int set = 1; set < 1 << land.kinds.size(); set++) {
            Q d = differ(sheets, sight.cut(set), boatTown(boat), sheetsLeast);
            n += d != null && d.compareTo(Q.of(below, 1)) < 0 ? 1 : 0;
        }
        return give(n);
    }

    public int deepest(int boat, int sheetsLeast) {
        if (!isBoat(boat)) {
            return none(2);
        }
        if (!in(sheetsLeast, 1, 60)) {
            return none(5);
        }
        int found = NONE;
        Q best = null;
        for (int set = (1 << land.kinds.size()) - 1; set >= 1; set--) {
            Q d = differ(sheets, sight.cut(set), boatTown(boat), sheetsLeast);
            if (d != null && (best == null || d.compareTo(best) <= 0)) {
                best = d;
                found = set;
            }
        }
        tell(best);
        return found;
    }

    private Q rightAfter(int towns) {
        Q sum = Q.of(0, 1);
        int all = 0;
        for (int s = 0; s < 4; s++) {
            Sight by = sight.streets(sight.streets & 1 << s);
            int before = told(sheets, by, towns, sight.from, sight.to).size();
            Q after = mean(told(sheets, by, towns, sight.then, sight.till));
            if (before > 0 && after == null) {
                return null;
            }
            if (before > 0) {
                sum = sum.plus(after.times(Q.of(before, 1)));
                all += before;
            }
        }
        return all == 0 ? null : sum.by(Q.of(all, 1));
    }

    public boolean right(int boat) {
        if (!isBoat(boat)) {
            return no(2);
        }
        int own = 1 << boatTown(boat);
        int others = sight.beside & ~own;
        Q a = rightAfter(own);
        Q b = rightAfter(others);
        if (a == null || b == null || overlap(sight)) {
            return no(8);
        }
        Q ownBefore = mean(told(sheets, sight, own, sight.from, sight.to));
        Q othersBefore = mean(told(sheets, sight, others, sight.from, sight.to));
        return tell(a.minus(ownBefore).minus(b.minus(othersBefore)));
    }

    public boolean left(int boat, int many, int least, int greatest, boolean most) {
        if (!isBoat(boat)) {
            return no(2);
        }
        if (!in(many, 0, 50) || !in(least, 0, 999) || !in(greatest, 0, 999) || greatest < least) {
            return no(5);
        }
        List<List<Integer>> four = four(sheets, sight, boatTown(boat));
        for (int k = 0; k < many; k++) {
            four.get(1).add(most ? greatest : least);
        }
        return tell(differ(four, sight, 1));
    }

    public boolean joined() {
        Q sum = Q.of(0, 1);
        int n = 0;
        for (Boat b : land.boats) {
            Q d = differ(sight, b.town);
            if (d != null) {
                sum = sum.plus(d);
                n++;
            }
        }
        return tell(n == 0 ? null : sum.by(Q.of(n, 1)));
    }

    public int needs(int boat, int x) {
        if (!isBoat(boat)) {
            return none(2);
        }
        if (!in(x, 1, 999)) {
            return none(5);
        }
        if (differ(sight, boatTown(boat)) == null) {
            return none(8);
        }
        Q spread = Q.of(0, 1);
        for (List<Integer> g : four(sheets, sight, boatTown(boat))) {
            long squares = 0;
            for (int v : g) {
                squares += (long) v * v;
            }
            spread = spread.plus(Q.of(squares, g.size())).minus(mean(g).times(mean(g)));
        }
        Q wanted = spread.times(Q.of(4, 1)).by(Q.of((long) x * x, 1));
        long n = wanted.floor();
        n += Q.of(n, 1).compareTo(wanted) < 0 ? 1 : 0;
        return give((int) Math.max(1, n));
    }

    private Q earlierDiffer(int boat, int y) {
        return differ(sight.before(sight.from, y - 1).after(y, sight.to), boatTown(boat));
    }

    public boolean earlier(int boat, int year) {
        if (!isBoat(boat)) {
            return no(2);
        }
        if (year <= sight.from || year > sight.to) {
            return no(5);
        }
        return tell(earlierDiffer(boat, year));
    }

    public int earliers(int boat) {
        if (!isBoat(boat)) {
            return none(2);
        }
        Q own = differ(sight, boatTown(boat));
        if (own == null) {
            return none(8);
        }
        int n = 0;
        for (int y = sight.from + 1; y <= sight.to; y++) {
            Q d = earlierDiffer(boat, y);
            n += d != null && d.size().compareTo(own.size()) >= 0 ? 1 : 0;
        }
        return give(n);
    }

    private Q slope(int towns) {
        Q n = Q.of(0, 1);
        Q xy = n;
        Q x = n;
        Q y = n;
        Q xx = n;
        for (int year = sight.from; year <= sight.to; year++) {
            Q m = mean(told(sheets, sight, towns, year, year));
            if (m != null) {
                Q at = Q.of(year, 1);
                n = n.plus(Q.of(1, 1));
                xy = xy.plus(at.times(m));
                x = x.plus(at);
                y = y.plus(m);
                xx = xx.plus(at.times(at));
            }
        }
        return n.floor() < 2 ? null : n.times(xy).minus(x.times(y)).by(n.times(xx).minus(x.times(x)));
    }

    public boolean trend(int towns) {
        return isSet(towns, land.towns.size()) ? tell(slope(towns)) : no(2);
    }

    public boolean split(int town) {
        if (!town(town)) {
            return no(2);
        }
        Q a = slope(1 << town);
        Q b = slope(sight.beside & ~(1 << town));
        return tell(a == null || b == null ? null : a.minus(b));
    }

    private Q part(int town, boolean pure) {
        int before = told(sheets, sight, 1 << town, sight.from, sight.to).size();
        int after = told(sheets, sight, 1 << town, sight.then, sight.till).size();
        if (before == 0 || after == 0 || overlap(sight)) {
            return null;
        }
        Q sum = Q.of(0, 1);
        for (int k = 0; k < land.kinds.size(); k++) {
            Sight by = sight.cut(sight.cut & 1 << k);
            List<Integer> b = told(sheets, by, 1 << town, sight.from, sight.to);
            List<Integer> a = told(sheets, by, 1 << town, sight.then, sight.till);
            if (b.isEmpty() && !a.isEmpty()) {
                return null;
            }
            Q partAfter = Q.of(a.size(), after);
            if (pure && !a.isEmpty()) {
                sum = sum.plus(partAfter.times(mean(a).minus(mean(b))));
            }
            if (!pure && !b.isEmpty()) {
                sum = sum.plus(partAfter.minus(Q.of(b.size(), before)).times(mean(b)));
            }
        }
        return sum;
    }

    public boolean mix(int town) {
        return town(town) ? tell(part(town, false)) : no(2);
    }

    public boolean pure(int town) {
        return town(town) ? tell(part(town, true)) : no(2);
    }

    // ---- worlds

    private List<Sheet> drawn(int law, int seed) {
        List<Sheet> all = new ArrayList<>();
        long s = seed;
        for (Sheet h : sheets) {
            s = (s * 1621 + 11113) % 65536;
            int draw = (int) (s / 16 % 100);
            all.add(h.wage == -1 ? h : h.saying(wage(law, h.town, h.year, h.kind, h.street, draw), h.rent));
        }
        return all;
    }

    public int world(int law, int seed) {
        if (!law(law)) {
            return none(2);
        }
        if (!in(seed, 0, 9999)) {
            return none(5);
        }
        List<Sheet> now = drawn(law, seed);
        int n = 0;
        for (int i = 0; i < now.size(); i++) {
            n += now.get(i).wage != sheets.get(i).wage ? 1 : 0;
        }
        sheets = now;
        return give(n);
    }

    public int span(int boat, int law, int seed, int many, int what) {
        if (!isBoat(boat) || !law(law)) {
            return none(2);
        }
        if (!in(seed, 0, 9999) || !in(many, 1, 50) || !in(what, 0, 2)) {
            return none(5);
        }
        List<Long> all = new ArrayList<>();
        for (int k = 0; k < many; k++) {
            Q d = differ(drawn(law, seed + k), sight, boatTown(boat), 1);
            if (d != null) {
                all.add(d.floor());
            }
        }
        if (what == 2) {
            return give(all.size());
        }
        if (all.isEmpty()) {
            return none(8);
        }
        all.sort(null);
        return give((int) (long) all.get(what == 0 ? 0 : all.size() - 1));
    }

    public boolean odds(int boat, int law, int seed, int many, int within) {
        if (!isBoat(boat) || !law(law)) {
            return no(2);
        }
        if (!in(seed, 0, 9999) || !in(many, 1, 50) || !in(within, 0, 999)) {
            return no(5);
        }
        Q truth = differ(sight, boatTown(boat));
        if (truth == null) {
            return no(8);
        }
        int mine = 0;
        int all = 0;
        for (int l = 0; l < land.laws.size(); l++) {
            for (int k = 0; k < many; k++) {
                Q d = differ(drawn(l, seed + k), sight, boatTown(boat), 1);
                if (d != null && Math.abs(d.floor() - truth.floor()) <= within) {
                    all++;
                    mine += l == law ? 1 : 0;
                }
            }
        }
        return tell(all == 0 ? null : Q.of(mine, all));
    }

    // ---- ways

    private int stepCount;

    public int ways(int n) {
        if (n < 0 || n > tape.size() || n > 300) {
            return none(5);
        }
        Text t = text(n);
        try {
            stepCount = 0;
            List<Step> all = steps(t, 0);
            if (!t.peek().isEmpty()) {
                throw t.fault(2);
            }
            ways = all;
            return passed(stepCount);
        } catch (Fault f) {
            return failed(f);
        }
    }

    private List<Step> steps(Text t, int depth) {
        List<Step> all = new ArrayList<>();
        while (!t.peek().isEmpty() && !t.peek().equals("end")) {
            all.add(step(t, depth));
        }
        return all;
    }

    private Step step(Text t, int depth) {
        String w = t.peek();
        if (!WAYS_WORDS.contains(w)) {
            throw t.fault(2);
        }
        if (stepCount == 30) {
            throw t.fault(6);
        }
        boolean begins = w.equals("each") || w.equals("least");
        if (begins && depth == 3) {
            throw t.fault(7);
        }
        stepCount++;
        t.take();
        int set = 0;
        int a = 0;
        int b = 0;
        List<Step> inner = null;
        if (w.equals("beside")) {
            set = names(t, land.towns, WAYS_WORDS);
        } else if (w.equals("cut")) {
            set = names(t, land.kinds, WAYS_WORDS);
        } else if (w.equals("streets")) {
            do {
                set |= 1 << t.number(0, 3);
            } while (t.isNumber());
        } else if (w.equals("before") || w.equals("after")) {
            a = t.number(0, 11);
            b = t.number(a, 11);
        } else if (w.equals("least")) {
            a = t.number(0, 9999);
        }
        t.need(";");
        if (begins) {
            inner = steps(t, depth + 1);
            t.need("end");
            t.need(";");
        }
        return new Step(w, set, a, b, inner);
    }

    private static int names(Text t, List<String> of, Set<String> none) {
        int set = 0;
        do {
            if (!t.isName(none)) {
                throw t.fault(2);
            }
            int k = of.indexOf(t.peek());
            if (k < 0) {
                throw t.fault(3);
            }
            if (has(set, k)) {
                throw t.fault(5);
            }
            set |= 1 << k;
            t.take();
        } while (t.isName(none));
        return set;
    }

    private void run(List<Step> steps, int own) {
        for (Step s : steps) {
            if (cutOff) {
                return;
            }
            if (done == 200) {
                cutOff = true;
                return;
            }
            done++;
            switch (s.word) {
                case "beside" -> sight = sight.beside(s.set & (1 << land.towns.size()) - 1);
                case "cut" -> sight = sight.cut(s.set & (1 << land.kinds.size()) - 1);
                case "streets" -> sight = sight.streets(s.set);
                case "before" -> sight = sight.before(s.a, s.b);
                case "after" -> sight = sight.after(s.a, s.b);
                case "wages" -> sight = sight.rents(false);
                case "rents" -> sight = sight.rents(true);
                case "try" -> {
                    Q d = differ(sight, own);
                    if (d != null) {
                        tries.add(d);
                    }
                }
                case "each" -> {
                    int old = sight.cut;
                    for (int k = 0; k < land.kinds.size(); k++) {
                        sight = sight.cut(1 << k);
                        run(s.inner, own);
                    }
                    sight = sight.cut(old);
                }
                default -> {
                    for (int k = 0; k < 9 && !reached(s.a); k++) {
                        run(s.inner, own);
                    }
                }
            }
        }
    }

    private boolean reached(int n) {
        for (Q q : tries) {
            if (q.size().compareTo(Q.of(n, 1)) >= 0) {
                return true;
            }
        }
        return false;
    }

    public int written(int boat) {
        if (!isBoat(boat)) {
            return none(2);
        }
        Sight old = sight;
        wrote = true;
        tries = new ArrayList<>();
        done = 0;
        cutOff = false;
        run(ways, boatTown(boat));
        sight = old;
        return give(tries.size());
    }

    public int writ(int what) {
        if (!in(what, 0, 2)) {
            return none(5);
        }
        if (!wrote || what == 0 && tries.isEmpty()) {
            return none(8);
        }
        if (what == 1) {
            return give(done);
        }
        if (what == 2) {
            return give(cutOff ? 1 : 0);
        }
        int far = 0;
        for (int k = 1; k < tries.size(); k++) {
            far = tries.get(k).size().compareTo(tries.get(far).size()) > 0 ? k : far;
        }
        tell(tries.get(far));
        return far;
    }

    // ---- the line

    private int claimCount;

    public int line(int n) {
        if (n < 0 || n > tape.size() || n > 300) {
            return none(5);
        }
        Text t = text(n);
        try {
            claimCount = 0;
            Logic l = either(t, 0);
            t.need(";");
            t.need("");
            line = l;
            return passed(claimCount);
        } catch (Fault f) {
            return failed(f);
        }
    }

    private Logic either(Text t, int depth) {
        Logic l = both(t, depth);
        while (t.peek().equals("or")) {
            t.take();
            l = new Logic("or", l, both(t, depth), null);
        }
        return l;
    }

    private Logic both(Text t, int depth) {
        Logic l = one(t, depth);
        while (t.peek().equals("and")) {
            t.take();
            l = new Logic("and", l, one(t, depth), null);
        }
        return l;
    }

    private Logic one(Text t, int depth) {
        String w = t.peek();
        boolean claims = Set.of("fell", "rose", "held").contains(w);
        if (!claims && !w.equals("not") && !w.equals("(")) {
            throw t.fault(2);
        }
        if (claims && claimCount == 20) {
            throw t.fault(6);
        }
        if (depth == 6) {
            throw t.fault(7);
        }
        t.take();
        if (w.equals("not")) {
            return new Logic("not", one(t, depth + 1), null, null);
        }
        if (w.equals("(")) {
            Logic l = either(t, depth + 1);
            t.need(")");
            return l;
        }
        claimCount++;
        int number = t.number(0, 9999);
        int kinds = NONE;
        int least = 1;
        if (t.peek().equals("of")) {
            t.take();
            kinds = names(t, land.kinds, LINE_WORDS);
        }
        if (t.peek().equals("least")) {
            t.take();
            least = t.number(1, 60);
        }
        return new Logic("", null, null, new Claim(w, number, kinds, least));
    }

    private int value(Logic l, List<Sheet> of, int town) {
        return switch (l.word) {
            case "not" -> 2 - value(l.left, of, town);
            case "and" -> Math.min(value(l.left, of, town), value(l.right, of, town));
            case "or" -> Math.max(value(l.left, of, town), value(l.right, of, town));
            default -> {
                Claim c = l.claim;
                Q d = differ(of, c.kinds == NONE ? sight : sight.cut(c.kinds), town, c.least);
                if (d == null) {
                    yield 1;
                }
                Q n = Q.of(c.number, 1);
                boolean is = switch (c.word) {
                    case "fell" -> d.compareTo(Q.of(-c.number, 1)) <= 0;
                    case "rose" -> d.compareTo(n) >= 0;
                    default -> d.size().compareTo(n) <= 0;
                };
                yield is ? 2 : 0;
            }
        };
    }

    public int said(int town) {
        if (!town(town)) {
            return none(2);
        }
        return line == null ? none(8) : give(value(line, sheets, town));
    }

    public int turned(int town) {
        if (!town(town)) {
            return none(2);
        }
        if (line == null) {
            return none(8);
        }
        int now = value(line, sheets, town);
        for (int i = 0; i < sheets.size(); i++) {
            if (value(line, without(i, i), town) != now) {
                turned = List.of(i);
                return give(1);
            }
        }
        for (int i = 0; i < sheets.size(); i++) {
            for (int j = i + 1; j < sheets.size(); j++) {
                if (value(line, without(i, j), town) != now) {
                    turned = List.of(i, j);
                    return give(2);
                }
            }
        }
        return none(9);
    }

    private List<Sheet> without(int i, int j) {
        List<Sheet> all = new ArrayList<>(sheets);
        all.set(i, all.get(i).saying(-1, -1));
        all.set(j, all.get(j).saying(-1, -1));
        return all;
    }

    public int turning(int k) {
        return in(k, 0, turned.size() - 1) ? give(turned.get(k)) : none(8);
    }

    public int mark() {
        if (marks.size() == 3) {
            return none(7);
        }
        marks.add(new State(land, new ArrayList<>(sheets), sight, ways, line));
        return give(marks.size());
    }

    public int back() {
        if (marks.isEmpty()) {
            return none(8);
        }
        State s = marks.remove(marks.size() - 1);
        land = s.land;
        sheets = new ArrayList<>(s.sheets);
        sight = s.sight;
        ways = s.ways;
        line = s.line;
        return give(marks.size());
    }
}
