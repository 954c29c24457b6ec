import java.util.ArrayList;
import java.util.List;

/**
 * Section 6: for each call and each STATUS that the document lists for it, the call is refused with NONE or false, and all
 * that can be seen of the object is as it is without that call; and calls that only tell change nothing either.
 */
public final class RefusedTest {
    private static final Checks c = new Checks();
    private static final String LAND = "town a;town b;town c;kind x;kind y;boat a 6;boat b 9;law l 50+draw-9*hit;law m draw;";

    private interface Call {
        long on(MayBoats x);
    }

    private static long of(boolean answer) {
        return answer ? 1 : 0;
    }

    private static void sheet(MayBoats x, int... six) {
        for (int i = 0; i < 6; i++) {
            x.write(0, i, six[i]);
        }
        x.sheet(0);
    }

    /** An object of which everything is there: TRAYS 0 to 2 (not 3), a LAND, SHEETS, WAYS, a LINE, two MARKS, a tape. */
    private static MayBoats made() {
        MayBoats x = new MayBoats();
        x.tray(0, 1, 6);
        x.tray(1, 1, 2);
        x.tray(2, 2, 5);
        x.write(1, 1, 33);
        x.write(2, 4, 44);
        Checks.land(x, LAND);
        for (int t = 0; t < 3; t++) {
            sheet(x, t, 0, 0, 0, 10 + t, 20 + t);
            sheet(x, t, 6, 0, 1, 30 - t * t, -1);
        }
        Checks.ways(x, "try;beside c;try;");
        Checks.line(x, "rose 1 least 1;");
        x.mark();
        x.say(5, true, 7);
        x.mark();
        x.years(0, 0, 6, 6);
        x.weave(0, 4);
        x.written(0);
        x.turned(0);
        x.beside(3);
        x.cut(1, 7);
        x.mean(2, 6, 6);
        Checks.feed(x, "fell 2;");
        return x;
    }

    /** What is kept, MARKS and the tape aside. */
    private static void tellKept(MayBoats x, List<Long> told) {
        for (int tray = 0; tray < 4; tray++) {
            for (int place = 0; place < 7; place++) {
                told.add(x.read(tray, place));
                told.add((long) x.status());
            }
        }
        for (int what = 0; what < 8; what++) {
            told.add((long) x.many(what));
            told.add((long) x.sight(what));
        }
        for (int sheet = 0; sheet < 7; sheet++) {
            for (int what = 0; what < 6; what++) {
                told.add((long) x.look(sheet, what));
                told.add((long) x.status());
            }
        }
        for (int k = 0; k < 3; k++) {
            told.add((long) x.boat(k, 0));
            told.add((long) x.boat(k, 1));
            told.add((long) x.tells(k, 0, 6, 0, 0, 9));
            told.add((long) x.said(k));
        }
    }

    private static void tellFound(MayBoats x, List<Long> told) {
        told.add(x.top());
        told.add(x.bottom());
        for (int k = 0; k < 4; k++) {
            told.add((long) x.woven(k));
            told.add((long) x.turning(k));
            told.add((long) x.writ(k));
        }
        told.add(x.top());
        told.add(of(x.gap(0)));
        told.add(x.top());
        told.add(x.bottom());
    }

    private static void tellMarks(MayBoats x, List<Long> told) {
        told.add((long) x.written(0));
        told.add((long) x.writ(0));
        for (int k = 0; k < 4; k++) {
            told.add((long) x.back());
            told.add((long) x.status());
            told.add((long) x.look(5, 5));
            told.add((long) x.sight(0));
        }
    }

    private static void tellTape(MayBoats x, List<Long> told) {
        told.add((long) x.fault(0));
        told.add((long) x.fault(1));
        told.add((long) x.feed(0, 0, 0, 0, 0));
        told.add((long) x.line(7));
        told.add((long) x.status());
    }

    private static List<Long> all(MayBoats x, boolean found, boolean tape) {
        List<Long> told = new ArrayList<>();
        if (found) {
            tellFound(x, told);
        }
        tellKept(x, told);
        if (tape) {
            tellTape(x, told);
        }
        tellMarks(x, told);
        return told;
    }

    private static void refused(String what, int status, long answer, Call call) {
        MayBoats x = made();
        c.is(what, x, call.on(x), answer, status);
        c.is(what + " with " + status + " changes nothing", all(x, true, true).equals(all(made(), true, true)), true);
    }

    private static void none(String what, int status, Call call) {
        refused(what, status, -1, call);
    }

    private static void no(String what, int status, Call call) {
        refused(what, status, 0, call);
    }

    private static void traysAndTexts() {
        no("tray", 1, x -> of(x.tray(4, 0, 1)));
        no("tray sort", 1, x -> of(x.tray(0, 4, 1)));
        no("tray", 5, x -> of(x.tray(0, 0, 61)));
        no("tray", 6, x -> of(x.tray(0, 0, -1)));
        no("write", 1, x -> of(x.write(-1, 0, 5)));
        no("write", 3, x -> of(x.write(3, 0, 5)));
        no("write", 4, x -> of(x.write(0, 6, 5)));
        none("read", 1, x -> x.read(4, 0));
        none("read", 3, x -> x.read(3, 0));
        none("read", 4, x -> x.read(0, -1));
        no("pour", 1, x -> of(x.pour(0, 0, 4, 0, 1)));
        no("pour", 3, x -> of(x.pour(0, 0, 3, 0, 1)));
        no("pour", 11, x -> of(x.pour(1, 1, 2, 0, 1)));
        no("pour", 6, x -> of(x.pour(1, 1, 0, 0, -1)));
        no("pour", 4, x -> of(x.pour(1, 1, 0, 0, 2)));
        no("pour there", 4, x -> of(x.pour(1, 0, 0, 5, 2)));
        none("land", 5, x -> x.land(21));
        none("land", 5, x -> x.land(-1));
        none("ways", 5, x -> x.ways(21));
        none("line", 5, x -> x.line(21));
        none("many", 5, x -> x.many(5));
        none("boat", 2, x -> x.boat(2, 0));
        none("boat", 5, x -> x.boat(0, 2));
        none("tells", 2, x -> x.tells(2, 0, 0, 0, 0, 0));
        none("tells", 5, x -> x.tells(0, 0, 0, 0, 0, 100));
    }

    private static void sheetsAndSight() {
        none("sheet", 1, x -> x.sheet(4));
        none("sheet", 3, x -> x.sheet(3));
        none("sheet", 4, x -> x.sheet(1));
        none("look", 2, x -> x.look(6, 0));
        none("look", 5, x -> x.look(0, 6));
        none("look", 8, x -> x.look(1, 5));
        no("say", 2, x -> of(x.say(6, true, 1)));
        no("say", 5, x -> of(x.say(0, true, 1000)));
        no("beside", 2, x -> of(x.beside(8)));
        no("cut", 2, x -> of(x.cut(4, 1)));
        no("cut", 5, x -> of(x.cut(2, 16)));
        no("years", 5, x -> of(x.years(1, 2, 4, 3)));
        none("sight", 5, x -> x.sight(8));
        none("counts", 2, x -> x.counts(3, 0, 1));
        none("counts", 5, x -> x.counts(0, 1, 0));
        no("mean", 2, x -> of(x.mean(3, 0, 1)));
        no("mean", 5, x -> of(x.mean(0, 1, 0)));
        no("mean", 8, x -> of(x.mean(0, 2, 3)));
        no("differ", 2, x -> of(x.differ(3)));
    }

    /** Calls that have no answer since nothing COUNTS, behind a change that both objects have seen. */
    private static void without(String what, long answer, Call change, Call call) {
        MayBoats x = made();
        MayBoats y = made();
        change.on(x);
        change.on(y);
        c.is(what, x, call.on(x), answer, 8);
        c.is(what + " with 8 changes nothing", all(x, true, true).equals(all(y, true, true)), true);
    }

    private static void noStreets(String what, long answer, Call call) {
        without(what, answer, x -> of(x.cut(3, 0)), call);
    }

    private static void nothingCounts() {
        noStreets("differ", 0, x -> of(x.differ(0)));
        noStreets("far", -1, x -> x.far(0));
        noStreets("chance", 0, x -> of(x.chance(0)));
        noStreets("weave", -1, x -> x.weave(0, 2));
        noStreets("gap", 0, x -> of(x.gap(0)));
        noStreets("deepest", -1, x -> x.deepest(0, 1));
        noStreets("right", 0, x -> of(x.right(0)));
        noStreets("left", 0, x -> of(x.left(0, 1, 0, 5, true)));
        noStreets("joined", 0, x -> of(x.joined()));
        noStreets("needs", -1, x -> x.needs(0, 5));
        noStreets("earliers", -1, x -> x.earliers(0));
        noStreets("trend", 0, x -> of(x.trend(3)));
        noStreets("split", 0, x -> of(x.split(0)));
        noStreets("mix", 0, x -> of(x.mix(0)));
        noStreets("pure", 0, x -> of(x.pure(0)));
        noStreets("span", -1, x -> x.span(0, 0, 0, 5, 0));
        noStreets("span", -1, x -> x.span(0, 0, 0, 5, 1));
        noStreets("odds", 0, x -> of(x.odds(0, 0, 0, 5, 999)));
        without("earlier", 0, x -> of(x.years(0, 1, 6, 6)), x -> of(x.earlier(0, 1)));
        without("odds", 0, x -> of(x.say(1, false, 999)), x -> of(x.odds(0, 0, 0, 1, 5)));
    }

    private static void differs() {
        none("far", 2, x -> x.far(2));
        no("chance", 2, x -> of(x.chance(2)));
        none("weave", 2, x -> x.weave(2, 1));
        none("weave", 5, x -> x.weave(0, 9));
        none("woven", 2, x -> x.woven(3));
        no("gap", 5, x -> of(x.gap(12)));
        none("cuts", 2, x -> x.cuts(2, 1, 0));
        none("cuts", 5, x -> x.cuts(0, 0, 0));
        none("deepest", 2, x -> x.deepest(2, 1));
        none("deepest", 5, x -> x.deepest(0, 61));
        no("right", 2, x -> of(x.right(2)));
        no("right", 8, x -> of(x.right(0)));
        no("left", 2, x -> of(x.left(2, 1, 0, 1, true)));
        no("left", 5, x -> of(x.left(0, 1, 1, 0, true)));
        none("needs", 2, x -> x.needs(2, 1));
        none("needs", 5, x -> x.needs(0, 0));
        no("earlier", 2, x -> of(x.earlier(2, 1)));
        no("earlier", 5, x -> of(x.earlier(0, 0)));
        none("earliers", 2, x -> x.earliers(2));
        no("trend", 2, x -> of(x.trend(8)));
        no("split", 2, x -> of(x.split(3)));
        no("mix", 2, x -> of(x.mix(3)));
        no("pure", 2, x -> of(x.pure(3)));
    }

    private static void worldsAndTexts() {
        none("world", 2, x -> x.world(2, 0));
        none("world", 5, x -> x.world(0, 10000));
        none("span", 2, x -> x.span(0, 2, 0, 1, 0));
        none("span", 5, x -> x.span(0, 0, 0, 51, 0));
        no("odds", 2, x -> of(x.odds(0, 2, 0, 1, 0)));
        no("odds", 5, x -> of(x.odds(0, 0, 0, 1, 1000)));
        none("written", 2, x -> x.written(2));
        none("writ", 5, x -> x.writ(3));
        none("said", 2, x -> x.said(3));
        none("turned", 2, x -> x.turned(3));
        none("turning", 8, x -> x.turning(2));
    }

    private static void turnedByNone() {
        MayBoats x = made();
        MayBoats y = made();
        x.cut(3, 0);
        y.cut(3, 0);
        c.is("turned", x, x.turned(0), -1, 9);
        c.is("turned with 9 changes nothing", all(x, true, true).equals(all(y, true, true)), true);
    }

    /** With a LAND and SHEETS, but no LINE, WAYS, weave(), written(), turned(). */
    private static MayBoats bare() {
        MayBoats x = new MayBoats();
        x.tray(0, 1, 6);
        Checks.land(x, LAND);
        sheet(x, 0, 0, 0, 0, 10, 20);
        sheet(x, 1, 6, 1, 2, 30, 40);
        x.mean(0, 0, 0);
        Checks.feed(x, "fell 2;");
        return x;
    }

    private static void early(String what, long answer, Call call) {
        MayBoats x = bare();
        c.is(what, x, call.on(x), answer, 8);
        c.is(what + " with 8 changes nothing", all(x, true, true).equals(all(bare(), true, true)), true);
    }

    private static void nothingFoundYet() {
        early("woven", -1, x -> x.woven(0));
        early("gap", 0, x -> of(x.gap(0)));
        early("writ", -1, x -> x.writ(0));
        early("writ", -1, x -> x.writ(1));
        early("said", -1, x -> x.said(0));
        early("turned", -1, x -> x.turned(0));
        early("turning", -1, x -> x.turning(0));
        early("joined", 0, x -> of(x.joined()));
    }

    private static void noTry() {
        MayBoats x = bare();
        MayBoats y = bare();
        x.written(0);
        y.written(0);
        c.is("writ", x, x.writ(0), -1, 8);
        c.is("writ with 8 changes nothing", all(x, true, true).equals(all(y, true, true)), true);
    }

    private static MayBoats another() {
        MayBoats x = made();
        x.land(0);
        return x;
    }

    private static void notAsManyTowns() {
        MayBoats x = another();
        c.is("gap", x, x.gap(0), 9);
        c.is("gap with 9 changes nothing", all(x, true, true).equals(all(another(), true, true)), true);
    }

    private static void marksAreFull() {
        MayBoats x = made();
        MayBoats y = made();
        x.mark();
        y.mark();
        c.is("mark", x, x.mark(), -1, 7);
        c.is("mark with 7 changes nothing", all(x, true, true).equals(all(y, true, true)), true);
    }

    private static void marksAreGone() {
        MayBoats x = made();
        MayBoats y = made();
        for (int k = 0; k < 2; k++) {
            x.back();
            y.back();
        }
        c.is("back", x, x.back(), -1, 8);
        c.is("back with 8 changes nothing", all(x, true, true).equals(all(y, true, true)), true);
    }

    private static MayBoats full(int rent) {
        MayBoats x = made();
        for (int i = 6; i < 60; i++) {
            x.sheet(0);
        }
        x.write(0, 5, rent);
        return x;
    }

    private static void sheetsAreFull() {
        MayBoats x = full(999);
        c.is("sheet", x, x.sheet(0), -1, 7);
        c.is("sheet with 7 changes nothing", all(x, true, true).equals(all(full(999), true, true)), true);
        MayBoats y = full(1000);
        c.is("sheet", y, y.sheet(0), -1, 5);
        c.is("sheet with 5 changes nothing", all(y, true, true).equals(all(full(1000), true, true)), true);
    }

    /** A FAULT empties the tape, and fault() tells of it; all else is as it was. */
    private static void faulty(String what, String text, Call call) {
        MayBoats x = made();
        Checks.feed(x, text);
        c.is(what, x, call.on(x), -1, 10);
        c.is(what + " with 10: the FAULT", x.fault(0) > 0, true);
        c.is(what + " with 10: its place", x.fault(1) >= 0, true);
        c.is(what + " with 10: the tape is empty", x.feed(0, 0, 0, 0, 0), 20);
        c.is(what + " with 10 changes nothing else", all(x, true, false).equals(all(made(), true, false)), true);
    }

    private static void faults() {
        faulty("land", "", x -> x.land(7));
        faulty("land late", "town q;town r;kind s;law t 3;boat q 5;", x -> x.land(20));
        faulty("ways", "", x -> x.ways(7));
        faulty("line", "try;", x -> x.line(24));
    }

    private static void tells(String what, boolean fraction, Call call) {
        MayBoats x = made();
        MayBoats y = made();
        call.on(x);
        c.is(what + " has an answer", x.status(), 0);
        if (!fraction) {
            c.is(what + " tells no FRACTION", x.top() == y.top() && x.bottom() == y.bottom(), true);
        }
        c.is(what + " only tells", all(x, false, true).equals(all(y, false, true)), true);
    }

    private static void callsThatOnlyTell() {
        tells("read", false, x -> x.read(0, 0));
        tells("many", false, x -> x.many(0));
        tells("boat", false, x -> x.boat(0, 1));
        tells("tells", false, x -> x.tells(1, 2, 3, 1, 2, 50));
        tells("look", false, x -> x.look(0, 4));
        tells("sight", false, x -> x.sight(0));
        tells("counts", false, x -> x.counts(0, 0, 11));
        tells("mean", true, x -> of(x.mean(0, 0, 11)));
        tells("differ", true, x -> of(x.differ(0)));
        tells("far", false, x -> x.far(0));
        tells("chance", true, x -> of(x.chance(0)));
        tells("weave", false, x -> x.weave(0, 8));
        tells("woven", false, x -> x.woven(0));
        tells("gap", true, x -> of(x.gap(0)));
        tells("cuts", false, x -> x.cuts(0, 1, 99));
        tells("deepest", true, x -> x.deepest(0, 1));
        tells("left", true, x -> of(x.left(0, 5, 1, 2, true)));
        tells("joined", true, x -> of(x.joined()));
        tells("needs", false, x -> x.needs(0, 7));
        tells("earliers", false, x -> x.earliers(0));
        tells("mix", true, x -> of(x.mix(0)));
        tells("pure", true, x -> of(x.pure(0)));
        tells("span", false, x -> x.span(0, 0, 7, 50, 0));
        tells("odds", true, x -> of(x.odds(0, 0, 7, 50, 999)));
        tells("written", false, x -> x.written(0));
        tells("writ", true, x -> x.writ(0));
        tells("writ", false, x -> x.writ(1));
        tells("said", false, x -> x.said(0));
        tells("turned", false, x -> x.turned(0));
        tells("turning", false, x -> x.turning(0));
        tells("mark and back", false, x -> x.mark() + x.back());
    }

    public static void main(String[] args) {
        Checks.callAll(RefusedTest.class);
        c.end("RefusedTest");
    }
}
