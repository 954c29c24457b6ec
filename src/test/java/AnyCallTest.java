import java.lang.reflect.InvocationTargetException;
import java.lang.reflect.Method;
import java.lang.reflect.Modifier;
import java.util.ArrayList;
import java.util.Arrays;
import java.util.Comparator;
import java.util.List;
import java.util.Random;
import java.util.Set;

/**
 * Any call with any arguments in any state: none throws, STATUS is one of section 6, an answer fits its STATUS, and the
 * FRACTION has no common divisor and a bottom above 0. What the answers are is asked by the other tests.
 */
public final class AnyCallTest {
    private static final int[] EDGES = {Integer.MIN_VALUE, -10000, -1000, -64, -2, -1, 0, 1, 2, 3, 4, 5, 6, 7, 8, 11, 12, 15, 16,
        20, 31, 50, 51, 59, 60, 61, 63, 64, 99, 100, 300, 301, 600, 601, 999, 1000, 9999, 10000, 65536, Integer.MAX_VALUE};
    private static final String[] TOKENS = {"town ", "kind ", "boat ", "law ", "year", "street", "hit", "draw", "a ", "b ",
        "x ", "y ", "beside ", "cut ", "streets ", "before ", "after ", "wages", "rents", "try", "each", "end", "least ", " or ",
        " and ", "not ", "fell ", "rose ", "held ", " of ", ";", ";", ";", "+", "-", "*", "/", "(", ")", "0 ", "1 ", "6 ", "12 ",
        "9999 ", "12345", "abcdefghi", "!", "\n", "\0", "\u00ff"};
    /** Calls that have no STATUS. */
    private static final Set<String> BARE = Set.of("status", "fault", "feed", "top", "bottom");
    private static final int OBJECTS = 400;
    private static final int CALLS = 500;

    private static final Method[] FACE = face();
    private static int asked;
    private static int wrong;

    private static Method[] face() {
        List<Method> all = new ArrayList<>();
        for (Method m : MayBoats.class.getDeclaredMethods()) {
            if (Modifier.isPublic(m.getModifiers())) {
                all.add(m);
            }
        }
        all.sort(Comparator.comparing(Method::getName));
        return all.toArray(new Method[0]);
    }

    private static void holds(String what, boolean is) {
        if (!is) {
            wrong++;
            System.out.println("not so: " + what);
        }
    }

    /** An object of which much is there, in one of some states; its WAYS and LINE may be of another LAND. */
    private static MayBoats made(int state, Random random) {
        MayBoats x = new MayBoats();
        if (state == 0) {
            return x;
        }
        Checks.land(x, "town a;town b;town c;town d;town e;town f;kind g;kind h;kind i;kind j;kind k;kind m;boat f 3;"
                + "boat b 6;boat c 9;law n 9999*9999*9999*9999*9999/(draw-50);law o 500+draw-hit*99;");
        Checks.ways(x, "beside f e; cut m k; least 900; each; try; rents; end; least 0; try; end; end;");
        Checks.line(x, "not (fell 5 of m k least 2 or rose 9) and held 50 of g or rose 1;");
        for (int i = 0; i < (state == 3 ? 60 : 30); i++) {
            Checks.sheet(x, random.nextInt(6), random.nextInt(state == 3 ? 4 : 12), random.nextInt(6), random.nextInt(4),
                    random.nextInt(1001) - 1, random.nextInt(1001) - 1);
        }
        x.years(0, 1, 2, 11);
        x.weave(0, 8);
        x.written(0);
        x.turned(5);
        if (state == 2) {
            Checks.land(x, "town z;");
            x.mark();
        }
        return x;
    }

    private static int number(Random random) {
        int way = random.nextInt(10);
        return way < 6 ? random.nextInt(7) : way < 9 ? EDGES[random.nextInt(EDGES.length)] : random.nextInt();
    }

    private static Object[] drawn(Method m, Random random) {
        Class<?>[] types = m.getParameterTypes();
        Object[] args = new Object[types.length];
        for (int i = 0; i < args.length; i++) {
            args[i] = types[i] == boolean.class ? (Object) random.nextBoolean()
                    : types[i] == long.class ? (Object) (random.nextBoolean() ? random.nextLong() : number(random))
                    : (Object) number(random);
        }
        return args;
    }

    private static String soup(Random random) {
        StringBuilder b = new StringBuilder();
        int many = random.nextInt(12);
        for (int i = 0; i < many; i++) {
            b.append(TOKENS[random.nextInt(TOKENS.length)]);
        }
        return b.toString();
    }

    private static long divisor(long a, long b) {
        return b == 0 ? Math.abs(a) : divisor(b, a % b);
    }

    private static void fits(String call, MayBoats x, String name, Object answer) {
        int status = x.status();
        boolean isNo = answer.equals(false) || answer.equals(-1) || answer.equals(-1L);
        holds(call + " has STATUS " + status, status >= 0 && status <= 11);
        if (!BARE.contains(name)) {
            holds(call + " answered " + answer + " with STATUS " + status, status == 0 || isNo);
            holds(call + " answered false with STATUS 0", status != 0 || !answer.equals(false));
        }
        holds(call + " left the FRACTION " + x.top() + " by " + x.bottom(),
                x.bottom() > 0 && divisor(x.top(), x.bottom()) == 1);
    }

    private static void call(MayBoats x, Method m, Object[] args) {
        String told = m.getName() + Arrays.toString(args);
        asked++;
        try {
            fits(told, x, m.getName(), m.invoke(x, args));
        } catch (InvocationTargetException e) {
            holds(told + " threw " + e.getCause(), false);
        } catch (IllegalAccessException e) {
            throw new IllegalStateException(told, e);
        }
    }

    private static void run(int seed) {
        Random random = new Random(seed);
        MayBoats x = made(seed % 4, random);
        for (int i = 0; i < CALLS; i++) {
            if (random.nextInt(20) == 0) {
                Checks.feed(x, soup(random));
            }
            Method m = FACE[random.nextInt(FACE.length)];
            // A LAND of drawn TOKENS is mostly an empty one; what was made must be there for a while.
            if (!m.getName().equals("land") || random.nextInt(10) == 0) {
                call(x, m, drawn(m, random));
            }
        }
    }

    public static void main(String[] args) {
        for (int seed = 0; seed < OBJECTS && wrong < 20; seed++) {
            run(seed);
        }
        System.out.println("AnyCallTest: " + asked + " calls, " + wrong + " not as due");
        System.exit(wrong == 0 ? 0 : 1);
    }
}
