import com.sun.management.ThreadMXBean;
import java.lang.management.ManagementFactory;

/** All calls of a run live in one room, so only the constructor makes objects. */
public final class RoomTest {
    private static final ThreadMXBean THREADS = (ThreadMXBean) ManagementFactory.getThreadMXBean();

    private static long allocated() {
        return THREADS.getThreadAllocatedBytes(Thread.currentThread().getId());
    }

    /** Six of whom any two of unlike sets can exchange, and all can go to the witch. */
    private static HadForVoice crowd() {
        HadForVoice x = new HadForVoice();
        for (int p = 0; p < 6; p++) {
            x.person(1 + p % 5, p % 3, (p + 1) % 3, 999);
            x.jar(p, 9);
        }
        for (int p = 0; p < 6; p++) {
            for (int q = p + 1; q < 6; q++) {
                x.meets(p, q, true);
            }
        }
        return x;
    }

    private static int dearestCalls(HadForVoice x) {
        int sum = Check.feed(x, "person if not (has = 1 or coins < 2) and whole < 3 less 2;") + x.rules();
        sum += x.fewest() + x.ith(0) + x.ways(6) + x.most(6) + x.cheapest(6) + x.cheaply(6, 1) + x.bars() + x.jars();
        sum += x.feeFor(6) + x.rings(6) + x.ring(3, 0) + x.comes(0, 4) + x.dearest(0, 4) + x.game(6) + x.play(6);
        sum += x.often(60) + x.prove() + x.judge() + x.keep() + x.draw() + x.make(0, 9) + x.back() + x.again();
        sum += x.sheet(0, 0, 40) + x.makeAll(0, 0, 20) + x.wouldCost(0, 0, 20) + x.remake(0, 3) + x.span(0) + x.liar();
        return sum + x.shelf(0, 0, 0) + x.act(0, 3, 5);
    }

    public static void main(String[] args) {
        long nothing = -allocated() + allocated();
        long before = allocated();
        HadForVoice x = crowd();
        long made = allocated() - before - nothing;
        dearestCalls(x);
        before = allocated();
        int sum = 0;
        for (int k = 0; k < 12; k++) {
            sum += dearestCalls(x);
        }
        long calls = allocated() - before - nothing;
        System.out.println(made + " bytes for an object, " + calls + " for 600 calls of it (" + sum + ")");
        if (made > 200_000 || calls > 20_000) {
            System.exit(1);
        }
    }
}
