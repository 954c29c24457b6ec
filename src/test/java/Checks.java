import java.lang.reflect.Method;
import java.util.Arrays;
import java.util.Comparator;

/** What the tests of the promises share: counting wrong answers, texts for the tape, sheets in a row. */
final class Checks {
    static final String LAND = "town a; town b; town c; kind x; kind y; boat a 6; law l 100 + 10 * kind - 30 * hit;";

    private int wrong;
    private int asked;

    void is(String what, long got, long want) {
        asked++;
        if (got != want) {
            wrong++;
            System.out.println(what + " answered " + got + ", due is " + want);
        }
    }

    void is(String what, boolean got, boolean want) {
        is(what, got ? 1 : 0, want ? 1 : 0);
    }

    /** An answer and the STATUS behind it. */
    void is(String what, MayBoats x, long got, long want, int status) {
        is(what, got, want);
        is("status() behind " + what, x.status(), status);
    }

    void is(String what, MayBoats x, boolean got, int status) {
        is(what, x, got ? 1 : 0, status == 0 ? 1 : 0, status);
    }

    /** A call that tells a FRACTION. */
    void tells(String what, MayBoats x, boolean got, long top, long bottom) {
        is(what, x, got, 0);
        fraction(what, x, top, bottom);
    }

    void fraction(String what, MayBoats x, long top, long bottom) {
        is("top() behind " + what, x.top(), top);
        is("bottom() behind " + what, x.bottom(), bottom);
    }

    /** A text that is refused, with its FAULT and the place of that. */
    void fault(String what, MayBoats x, int answer, int kind, int place) {
        is(what, x, answer, -1, 10);
        is("fault(0) behind " + what, x.fault(0), kind);
        is("fault(1) behind " + what, x.fault(1), place);
    }

    /** A text that is taken. */
    void taken(String what, MayBoats x, int answer, int want) {
        is(what, x, answer, want, 0);
        is("fault(0) behind " + what, x.fault(0), 0);
        is("fault(1) behind " + what, x.fault(1), -1);
    }

    /** Calls every method of a test that takes nothing, but main, by the order of their names. */
    static void callAll(Class<?> test) {
        Method[] all = test.getDeclaredMethods();
        Arrays.sort(all, Comparator.comparing(Method::getName));
        for (Method m : all) {
            if (m.getParameterCount() == 0 && m.getReturnType() == void.class && !m.isSynthetic()) {
                try {
                    m.setAccessible(true);
                    m.invoke(null);
                } catch (ReflectiveOperationException e) {
                    throw new IllegalStateException(m.getName(), e);
                }
            }
        }
    }

    static int feed(MayBoats x, String text) {
        int answer = 0;
        for (int i = 0; i < text.length(); i += 20) {
            int[] five = new int[5];
            for (int k = 0; k < 20; k++) {
                int c = i + k < text.length() ? text.charAt(i + k) : ' ';
                five[k / 4] = five[k / 4] << 8 | c;
            }
            answer = x.feed(five[0], five[1], five[2], five[3], five[4]);
        }
        return answer;
    }

    static int land(MayBoats x, String text) {
        feed(x, text);
        return x.land(text.length());
    }

    static int ways(MayBoats x, String text) {
        feed(x, text);
        return x.ways(text.length());
    }

    static int line(MayBoats x, String text) {
        feed(x, text);
        return x.line(text.length());
    }

    static MayBoats of(String land) {
        MayBoats x = new MayBoats();
        land(x, land);
        x.tray(3, 3, 6);
        return x;
    }

    /** SHEETS one behind the other: TOWN, YEAR, KIND, STREET, WAGE, RENT of each. */
    static MayBoats of(String land, int[]... sheets) {
        MayBoats x = of(land);
        for (int[] s : sheets) {
            sheet(x, s[0], s[1], s[2], s[3], s[4], s[5]);
        }
        return x;
    }

    /** Just TOWN, YEAR, WAGE of each; KIND 0, STREET 0, no RENT. */
    static MayBoats plain(String land, int[]... sheets) {
        MayBoats x = of(land);
        for (int[] s : sheets) {
            sheet(x, s[0], s[1], 0, 0, s[2], -1);
        }
        return x;
    }

    static int[] row(int... numbers) {
        return numbers;
    }

    static int sheet(MayBoats x, long... six) {
        x.tray(3, 3, six.length);
        for (int i = 0; i < six.length; i++) {
            x.write(3, i, six[i]);
        }
        return x.sheet(3);
    }

    /** TOWN a falls from 100 to 70, b goes from 90 to 95, c (KIND y, STREET 1) from 50 to 60. */
    static MayBoats three() {
        MayBoats x = of(LAND);
        sheet(x, 0, 0, 0, 0, 100, 10);
        sheet(x, 0, 6, 0, 0, 70, 20);
        sheet(x, 1, 0, 0, 0, 90, 10);
        sheet(x, 1, 6, 0, 0, 95, 10);
        sheet(x, 2, 1, 1, 1, 50, -1);
        sheet(x, 2, 7, 1, 1, 60, 30);
        return x;
    }

    void end(String name) {
        System.out.println(name + ": " + asked + " answers, " + wrong + " not as due");
        System.exit(wrong == 0 ? 0 : 1);
    }
}
