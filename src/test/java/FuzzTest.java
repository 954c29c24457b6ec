import java.lang.reflect.InvocationTargetException;
import java.lang.reflect.Method;
import java.util.HashMap;
import java.util.Map;
import java.util.Random;
import java.util.TreeMap;

/** Drawn runs of calls, the same ones each time, on MayBoats and on Oracle: every answer must be the same. */
public final class FuzzTest {
    private static final int RUNS = 400;
    private static final int ACTS = 160;
    private static final Map<String, Method> OURS = methodsOf(MayBoats.class);
    private static final Map<String, Method> DUE = methodsOf(Oracle.class);
    private static final String[] NAMES = {"a", "b", "c", "d", "e", "f", "x", "y", "z", "u", "v", "w", "l", "m"};
    private static final String[] ODD = {"town", "kind", "boat", "law", "year", "hit", "draw", "end", "each", "least",
        "of", "not", "or", "and", "fell", "try", "beside", "cut", "12345", "99999", "12", "11", "4", "3", "0", ";",
        "(", ")", "+", "-", "*", "/", "!", "A", "\n", " ", "abcdefgh", "abcdefghi", "a", "x", "\t", "\u00e9"};

    private final Random random;
    private final Map<String, Integer> seen;
    /** All WAGES, with unlike divisors, not just a few that meet often. */
    private final boolean wide;
    private final StringBuilder story = new StringBuilder();
    private MayBoats ours = new MayBoats();
    private Oracle due = new Oracle();
    private int towns;
    private int kinds;
    private int boats;
    private int laws;
    private int wrong;

    private FuzzTest(long seed, Map<String, Integer> seen) {
        this.random = new Random(seed);
        this.wide = now(30);
        this.seen = seen;
    }

    private static Map<String, Method> methodsOf(Class<?> c) {
        Map<String, Method> all = new HashMap<>();
        for (Method m : c.getMethods()) {
            if (m.getDeclaringClass() == c) {
                all.put(m.getName(), m);
            }
        }
        return all;
    }

    private static Object answer(Method m, Object on, Object[] args) {
        try {
            return m.invoke(on, args);
        } catch (InvocationTargetException e) {
            return e.getCause();
        } catch (IllegalAccessException e) {
            throw new IllegalStateException(e);
        }
    }

    private Object call(String name, Object... args) {
        Object a = answer(OURS.get(name), ours, args);
        Object b = answer(DUE.get(name), due, args);
        StringBuilder told = new StringBuilder(name).append(java.util.Arrays.toString(args));
        String after = a + " " + ours.status() + " " + ours.top() + "/" + ours.bottom()
                + " " + ours.fault(0) + "@" + ours.fault(1);
        String wanted = b + " " + due.status() + " " + due.top() + "/" + due.bottom()
                + " " + due.fault(0) + "@" + due.fault(1);
        story.append(told).append(" -> ").append(wanted).append('\n');
        seen.merge(name + " " + due.status() + (due.status() == 10 ? " fault " + due.fault(0) : ""), 1, Integer::sum);
        if (!after.equals(wanted) && wrong++ == 0) {
            System.out.println(story + "... but it answered " + after);
        }
        return b;
    }

    private int below(int n) {
        return random.nextInt(n);
    }

    private boolean now(int percent) {
        return below(100) < percent;
    }

    /** Mostly from 0 to one less than many, at times just outside or far away. */
    private int number(int many) {
        int way = below(40);
        if (way == 0) {
            return -1;
        }
        if (way == 1) {
            return many;
        }
        if (way == 2) {
            return new int[] {Integer.MIN_VALUE, Integer.MAX_VALUE, 1000, -1000, 64}[below(5)];
        }
        return below(Math.max(1, many));
    }

    private int from(int least, int greatest) {
        return least + number(greatest - least + 1);
    }

    // ---- texts

    private void feed(String text) {
        byte[] all = new byte[(text.length() + 19) / 20 * 20];
        java.util.Arrays.fill(all, (byte) ' ');
        for (int i = 0; i < text.length(); i++) {
            all[i] = (byte) text.charAt(i);
        }
        story.append("text ").append(text).append('\n');
        for (int i = 0; i < all.length; i += 20) {
            Object[] five = new Object[5];
            for (int k = 0; k < 5; k++) {
                int v = 0;
                for (int b = 0; b < 4; b++) {
                    v = v << 8 | all[i + 4 * k + b] & 255;
                }
                five[k] = v;
            }
            call("feed", five);
        }
    }

    private String spoiled(String text) {
        StringBuilder b = new StringBuilder(text);
        for (int k = below(3); k >= 0; k--) {
            int at = below(b.length() + 1);
            switch (below(3)) {
                case 0 -> b.insert(at, ODD[below(ODD.length)]);
                case 1 -> b.delete(at, Math.min(b.length(), at + 1 + below(4)));
                default -> b.replace(at, Math.min(b.length(), at + 1 + below(2)), ODD[below(ODD.length)]);
            }
        }
        return b.toString();
    }

    private void giveText(String call, String text) {
        String t = now(35) ? spoiled(text) : text;
        feed(t);
        int n = now(4) ? number(t.length()) : t.length();
        call(call, n);
        if (ours.status() == 5) {
            // The tape is as it was: it is emptied by a text that is taken or refused.
            call("land", 0);
        }
        refresh();
    }

    /** A dense LAND: most TOWNS have SHEETS in most of a few YEARS. */
    private void fill() {
        int many = 10 + below(55);
        for (int i = 0; i < many && towns > 0 && kinds > 0; i++) {
            sheet();
        }
        lookAtAll();
    }

    private void refresh() {
        towns = due.many(0);
        kinds = due.many(1);
        boats = due.many(2);
        laws = due.many(3);
        ours.many(3);
    }

    private String sum(int depth) {
        StringBuilder b = new StringBuilder();
        int items = 1 + below(3);
        for (int i = 0; i < items; i++) {
            if (i > 0) {
                b.append(now(60) ? " + " : "-");
            }
            int atoms = 1 + below(2);
            for (int a = 0; a < atoms; a++) {
                if (a > 0) {
                    b.append(now(60) ? "*" : " / ");
                }
                b.append(atom(depth));
            }
        }
        return b.toString();
    }

    private String atom(int depth) {
        if (depth < 7 && now(depth > 3 ? 15 : 30)) {
            return "(" + sum(depth + 1) + ")";
        }
        String[] all = {"town", "year", "kind", "street", "hit", "draw"};
        return now(45) ? all[below(6)] : "" + (now(80) ? below(300) : below(10000));
    }

    private String drawnLand() {
        StringBuilder b = new StringBuilder();
        int t = now(85) ? 2 + below(3) : below(8);
        int k = now(85) ? 1 + below(3) : below(8);
        for (int i = 0; i < t; i++) {
            b.append("town ").append(NAMES[i]).append("; ");
        }
        for (int i = 0; i < k; i++) {
            b.append("kind ").append(NAMES[6 + i]).append(";\n");
        }
        int many = now(90) ? 1 + below(2) : below(5);
        for (int i = 0; i < many; i++) {
            b.append("boat ").append(NAMES[now(90) ? i : below(7)]).append(' ').append(now(95) ? below(8) : below(14));
            b.append("; ");
        }
        int l = now(90) ? 1 + below(2) : below(6);
        for (int i = 0; i < l && b.length() < 450; i++) {
            String s = sum(0);
            b.append("law n").append((char) ('a' + i)).append(' ').append(s.length() > 120 ? "draw" : s).append(";");
        }
        return b.substring(0, Math.min(600, b.length()));
    }

    private String names(int first, int many) {
        StringBuilder b = new StringBuilder();
        int left = 1 + below(Math.max(1, many));
        for (int i = 0; i < many && left > 0; i++) {
            if (now(60) || many - i <= left) {
                b.append(' ').append(NAMES[first + i]);
                left--;
            }
        }
        // At times a NAME again, which is a FAULT of its own.
        return many == 0 ? " q" : now(4) ? b + " " + NAMES[first + below(many)] : b.toString();
    }

    private String drawnSteps(int depth) {
        StringBuilder b = new StringBuilder();
        int many = now(8) ? 12 : below(5);
        for (int i = 0; i < many; i++) {
            switch (below(11)) {
                case 0 -> b.append("beside").append(names(0, towns)).append("; ");
                case 1 -> b.append("cut").append(names(6, kinds)).append("; ");
                case 2 -> b.append("streets ").append(below(4)).append(now(50) ? " 1" : "").append("; ");
                case 3 -> b.append("before ").append(now(90) ? 0 : below(4)).append(' ').append(below(5)).append("; ");
                case 4 -> b.append("after ").append(2 + below(4)).append(" 11; ");
                case 5 -> b.append(now(50) ? "wages; " : "rents;");
                case 6 -> b.append(begin(depth, "each"));
                case 7 -> b.append(begin(depth, "least " + (now(70) ? below(200) : 9999)));
                default -> b.append("try; ");
            }
        }
        return b.toString();
    }

    private String begin(int depth, String how) {
        return depth > 3 || depth == 3 && now(80) ? "try;" : how + "; " + drawnSteps(depth + 1) + "end; ";
    }

    private String drawnLine(int depth) {
        if (depth < 8 && now(30)) {
            return now(50) ? "not " + drawnLine(depth + 1) : "(" + drawnLine(depth + 1) + ")";
        }
        if (now(50 - 5 * depth)) {
            return drawnLine(depth + 1) + (now(50) ? " and " : " or ") + drawnLine(depth + 1);
        }
        String claim = new String[] {"fell ", "rose ", "held "}[below(3)] + (now(80) ? below(120) : below(2));
        claim += now(30) ? " of" + names(6, kinds) : "";
        return claim + (now(25) ? " least " + (now(90) ? 1 + below(3) : below(64)) : "");
    }

    /** CLAIMS about as many as a LINE may have. */
    private String longLine() {
        StringBuilder b = new StringBuilder("held 40");
        int many = 18 + below(5);
        for (int i = 1; i < many; i++) {
            b.append(now(50) ? " or " : " and ").append(now(50) ? "fell " : "rose ").append(below(100));
        }
        return b.toString();
    }

    // ---- acts

    private void sheet() {
        call("tray", 0, 1, 6);
        int[] row = {number(towns), now(90) ? below(5) : number(12), number(kinds), now(70) ? below(2) : number(4),
            now(12) ? -1 : wide ? below(1000) : now(95) ? 20 * below(12) : from(-1, 999),
            now(25) ? -1 : now(95) ? below(300) : from(-1, 999)};
        for (int i = 0; i < 6; i++) {
            call("write", 0, i, (long) row[i]);
        }
        call("sheet", 0);
    }

    private void trays() {
        int tray = number(4);
        switch (below(5)) {
            case 0 -> call("tray", tray, number(4), now(80) ? below(12) : number(61));
            case 1 -> call("read", tray, number(10));
            case 2 -> call("pour", tray, number(6), number(4), number(6), number(6));
            case 3 -> call("write", tray, number(10), random.nextLong() >> below(60));
            default -> call("sheet", tray);
        }
    }

    private void sight() {
        switch (below(6)) {
            case 0 -> call("beside", now(90) ? below(1 << towns) : number(64));
            case 1 -> call("cut", now(90) ? below(1 << kinds) : number(64), now(70) ? 15 : number(16));
            case 2 -> call("rents", now(30));
            case 3 -> call("years", 0, below(4), 4, 11);
            case 4 -> call("years", number(12), number(12), number(12), number(12));
            default -> lookAtAll();
        }
    }

    private void lookAtAll() {
        call("beside", (1 << towns) - 1);
        call("cut", (1 << kinds) - 1, 15);
        int last = below(4);
        call("years", 0, last, last + 1, 11);
    }

    private void ask() {
        int b = number(boats);
        int t = number(towns);
        switch (below(34)) {
            case 0 -> call("counts", t, number(6), number(12));
            case 1 -> call("mean", t, number(6), number(12));
            case 2 -> call("far", b);
            case 3 -> call("chance", b);
            case 4, 5 -> weave(b);
            case 6 -> call("cuts", b, now(80) ? 1 + below(3) : from(1, 60), now(80) ? below(200) - 100 : from(-9999, 9999));
            case 7 -> call("deepest", b, now(80) ? 1 + below(3) : from(1, 60));
            case 8 -> call("right", b);
            case 9 -> call("left", b, number(51), number(1000), number(1000), now(50));
            case 10 -> call("joined");
            case 11 -> call("needs", b, now(50) ? 1 + below(30) : from(1, 999));
            case 12 -> call("earlier", b, now(70) ? 1 + below(3) : number(12));
            case 13 -> call("earliers", b);
            case 14 -> call("trend", now(80) ? below(1 << towns) : number(64));
            case 15 -> call("split", t);
            case 16 -> call("mix", t);
            case 17 -> call("pure", t);
            case 18 -> call("world", number(laws), number(10000));
            case 19 -> call("span", b, number(laws), number(10000), from(1, now(80) ? 5 : 50), number(3));
            case 20 -> call("odds", b, number(laws), number(10000), from(1, now(80) ? 5 : 50), now(50) ? below(60) : number(1000));
            case 21, 22 -> written(b);
            case 23 -> call("said", t);
            case 24, 25 -> turned(t);
            case 26 -> call("look", number(20), number(6));
            case 27 -> call("say", number(30), now(30), now(80) ? 20 * below(12) : from(-1, 999));
            case 28 -> call("tells", number(laws), t, number(12), number(kinds), number(4), number(100));
            case 29 -> call("boat", b, number(2));
            case 30 -> call("many", number(5));
            case 31 -> call("sight", number(8));
            default -> call("differ", t);
        }
    }

    private void weave(int b) {
        if (now(50)) {
            call("years", 0, below(2), 4, 11);
        }
        call("weave", b, from(1, now(70) ? 3 : 8));
        for (int t = 0; t < 7; t++) {
            call("woven", t);
        }
        call("gap", number(12));
        call("gap", below(4));
    }

    private void written(int b) {
        call("written", b);
        for (int what = 0; what < 4; what++) {
            call("writ", what);
        }
    }

    private void turned(int t) {
        call("turned", t);
        call("turning", 0);
        call("turning", 1);
        call("turning", number(3));
    }

    private void act() {
        int way = below(100);
        if (way < 2) {
            giveText("land", drawnLand());
            if (due.many(4) == 0) {
                fill();
            }
        } else if (way < 9) {
            String s = drawnSteps(0);
            giveText("ways", s.length() > 300 ? "try;" : s);
        } else if (way < 16) {
            String s = (now(6) ? longLine() : drawnLine(0)) + ";";
            giveText("line", s.length() > 300 ? "fell 1;" : s);
        } else if (way < 20) {
            call(now(60) ? "mark" : "back");
            refresh();
        } else if (way < 22) {
            lookAtAll();
        } else if (way < 27) {
            sight();
        } else if (way < 35) {
            trays();
        } else if (way < 40) {
            sheet();
        } else {
            ask();
        }
    }

    private int run() {
        String first = drawnLand();
        feed(first);
        call("land", 600);
        call("land", first.length());
        refresh();
        fill();
        for (int i = 0; i < ACTS && wrong == 0; i++) {
            act();
        }
        return wrong;
    }

    public static void main(String[] args) {
        Map<String, Integer> seen = new TreeMap<>();
        long first = args.length > 0 ? Long.parseLong(args[0]) : 1;
        int runs = args.length > 1 ? Integer.parseInt(args[1]) : RUNS;
        int wrong = 0;
        for (long seed = first; seed < first + runs && wrong == 0; seed++) {
            wrong = new FuzzTest(seed, seen).run();
            if (wrong > 0) {
                System.out.println("in the run of seed " + seed);
            }
        }
        if (args.length > 2) {
            System.out.println(seen);
        }
        System.out.println(wrong == 0 ? "FuzzTest: all answers are alike" : "FuzzTest: answers differ");
        System.exit(wrong == 0 ? 0 : 1);
    }
}
