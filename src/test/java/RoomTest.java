import com.sun.management.ThreadMXBean;
import java.lang.management.ManagementFactory;
import java.util.Random;

/** Calls with numbers of all sizes in many states: none throws, and a run makes few objects. */
public final class RoomTest {
    /** The most calls of an object, the writing and laying of its text among them. */
    private static final int CALLS = 450;
    /** All calls of one run live in one room: 600,000 objects of 16 bytes and 7,300,000 elements of 4. */
    private static final long ROOM = 600_000L * 16 + 7_300_000L * 4;
    private static final int[] EDGES = {Integer.MIN_VALUE, Integer.MIN_VALUE + 1, -99999, -24, -5, -4, -3, -2, -1, 11,
        15, 16, 20, 21, 24, 31, 32, 33, 48, 49, 64, 72, 73, 240, 300, 301, 500, 501, 999, 1000, 5000, 9999, 10000,
        65521, 99999, 100000, 1 << 24, 1 << 30, Integer.MAX_VALUE - 1, Integer.MAX_VALUE};
    private static final String[] TEXTS = {
        "",
        "c200,99,10;o0;o6;o12;o18;" + "f1,0,99,1,0,3;f3,0,99,240,99,3;".repeat(5) + "d15;d1;d8;d4;d2;e0;e15;g9,99;",
        "c0,0,1;".repeat(6) + "f0,0,1,1,0,0;f0,1,1,2,0,1;f0,2,1,3,0,2;f0,3,1,4,0,3;f2,4,1,5,0,0;f1,5,1,6,0,0;d3;d12;s0;",
        "c40,5,10;" + "f0,0,9,48,3,0;".repeat(10) + "d1;".repeat(5) + "e1;".repeat(4) + "g1,1;".repeat(6) + "b1,1;s4;",
        "c40,5,1;f0,0,9,48,3,0;f0,0,9,48,3,0;",
        "c40,5,1;f0,0,9,48,3,",
        "\u0000\u00ff;;;,,,999",
    };

    private final Check check = new Check("RoomTest");
    private final ThreadMXBean threads = (ThreadMXBean) ManagementFactory.getThreadMXBean();
    private final int[] calls = new int[CALLS];
    private final int[][] numbers = new int[CALLS][3];
    private final long[] values = new long[CALLS];
    private long sum;

    public static void main(String[] args) {
        RoomTest test = new RoomTest();
        for (int seed = 0; seed < 700; seed++) {
            test.run(seed);
        }
        test.check.holds("the answers were used", test.sum != 0);
        test.check.end();
    }

    private void run(int seed) {
        draw(new Random(seed));
        long before = threads.getCurrentThreadAllocatedBytes();
        OffFirst x = new OffFirst();
        Check.write(x, TEXTS[seed % TEXTS.length]);
        x.lay();
        for (int i = 0; i < CALLS; i++) {
            sum += ask(x, calls[i], numbers[i], values[i]);
        }
        long made = threads.getCurrentThreadAllocatedBytes() - before;
        check.holds("run " + seed + " keeps to its room with " + made + " bytes", made <= ROOM);
    }

    private void draw(Random draws) {
        for (int i = 0; i < CALLS; i++) {
            calls[i] = draws.nextInt(32);
            values[i] = draws.nextLong();
            for (int n = 0; n < 3; n++) {
                int draw = draws.nextInt(8);
                numbers[i][n] = draw == 0 ? draws.nextInt() : draw == 1 ? EDGES[draws.nextInt(EDGES.length)]
                        : draw == 2 ? draws.nextInt(1000) : draws.nextInt(11) - 1;
            }
        }
    }

    private static int ask(OffFirst x, int call, int[] n, long v) {
        switch (call) {
            case 0: return x.write(n[0], v);
            case 1: return n[0] == 1 ? x.wipe() : 1;
            case 2: return x.fault();
            case 3: return n[0] == 2 ? x.lay() : 1;
            case 4: return x.food(n[0], n[1]);
            case 5: return x.warmth(n[0], n[1]);
            case 6: return x.hours(n[0]);
            case 7: return x.move(n[0], n[1]);
            case 8: return x.make(n[0], n[1]);
            case 9: return x.eat(n[0]);
            case 10: return x.throwOut(n[0]);
            case 11: return x.offIn(n[0], n[1]);
            case 12: return x.lost(n[0]);
            case 13: return x.plan(n[0], n[1]);
            case 14: return x.freeze(n[0], n[1]);
            case 15: return x.lie(n[0], n[1], n[2]);
            case 16: return x.expect(n[0]);
            case 17: return x.buy();
            case 18: return x.print(n[0]);
            case 19: return x.smell(n[0]);
            case 20: return x.line();
            case 21: return x.cut(n[0], n[1] > 3);
            case 22: return x.ill(n[0], n[1]);
            case 23: return x.span(n[0], n[1]);
            case 24: return n[0] == 3 ? x.noSpans() : 1;
            case 25: return x.law(n[0]);
            case 26: return x.habit(n[0], n[1], n[2]);
            case 27: return x.keep();
            case 28: return x.back();
            case 29: return x.count(n[0]);
            case 30: return x.hours(999);
            default: return x.lie(4, 500, -1);
        }
    }
}
