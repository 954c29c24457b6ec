import com.sun.management.ThreadMXBean;
import java.lang.management.ManagementFactory;

/** The dearest calls, 500 of each, in the room of one run: they must make next to nothing. */
public final class RoomTest {
    private static final ThreadMXBean BEAN = (ThreadMXBean) ManagementFactory.getThreadMXBean();
    private static int wrong;

    private static long used() {
        return BEAN.getCurrentThreadAllocatedBytes();
    }

    private static void most(String what, long bytes, long most) {
        if (bytes > most) {
            wrong++;
            System.out.println(what + " made " + bytes + " bytes, at most " + most + " are due");
        }
    }

    private static MayBoats full() {
        MayBoats x = Checks.of("town a;town b;town c;town d;town e;town f;kind g;kind h;kind i;kind j;kind k;kind m;"
                + "boat a 3;boat b 6;boat c 9;law n draw*(1+2*(year-hit))/3;law o draw;law p 5*town;law q 100-hit;");
        for (int i = 0; i < 60; i++) {
            Checks.sheet(x, i % 6, i / 6, i * 7 % 6, i % 4, i * 13 % 500, i * 17 % 400);
        }
        Checks.ways(x, "least 9999; each; try; rents; try; wages; end; end;");
        StringBuilder line = new StringBuilder("held 999");
        for (int k = 1; k < 20; k++) {
            line.append(" or held 999");
        }
        Checks.line(x, line.append(';').toString());
        x.years(0, 1, 2, 11);
        return x;
    }

    private static void call(MayBoats x, int k) {
        switch (k) {
            case 0 -> x.turned(0);
            case 1 -> x.odds(0, 0, 1, 50, 999);
            case 2 -> x.span(0, 0, 1, 50, 0);
            case 3 -> x.written(0);
            case 4 -> x.weave(0, 8);
            case 5 -> x.deepest(0, 1);
            case 6 -> x.chance(0);
            case 7 -> x.world(0, 5);
            case 8 -> x.right(0);
            case 9 -> x.split(0);
            case 10 -> x.mix(0);
            case 11 -> x.earliers(0);
            case 12 -> Checks.feed(x, "try;");
            case 13 -> x.tray(0, 3, 60);
            default -> x.joined();
        }
    }

    private static long madeBy(MayBoats x, int k) {
        long before = used();
        for (int i = 0; i < (k == 0 ? 50 : 500); i++) {
            call(x, k);
        }
        return used() - before;
    }

    public static void main(String[] args) {
        full();
        long before = used();
        new MayBoats();
        most("a new object", used() - before, 60_000);
        MayBoats x = full();
        for (int k = 0; k < 15; k++) {
            // The first round pays for what the machine itself loads.
            madeBy(x, k);
            most("call " + k, madeBy(x, k), k == 12 ? 60_000 : 1_000);
        }
        before = used();
        for (int i = 0; i < 250; i++) {
            x.mark();
            x.back();
        }
        most("mark and back", used() - before, 30_000);
        System.out.println(wrong == 0 ? "RoomTest: the room suffices" : "RoomTest: too much was made");
        System.exit(wrong == 0 ? 0 : 1);
    }
}
