import com.sun.management.ThreadMXBean;
import java.lang.management.ManagementFactory;
import java.util.Random;

/** Runs of 512 calls with any arguments: nothing is thrown, and no calls but the constructor take room. */
public final class RoomTest {
    private static final int[] ODD = {Integer.MIN_VALUE, Integer.MAX_VALUE, -1, -2, 8, 7, 240, 255, 256, 1000000, -1000000001};

    public static void main(String[] args) {
        Check check = new Check();
        check.part("room");
        Random lots = new Random(3);
        long answers = 0;
        for (int run = 0; run < 3000; run++) {
            EightWays x = new EightWays();
            for (int call = 0; call < 512; call++) {
                answers += anyCall(x, lots) == 0 ? 0 : 1;
            }
        }
        check.due("calls that answered more than 0", answers > 1000 ? 1 : 0, 1);
        check.due("bytes for 512 dear calls", bytesOfDearCalls() < 20000 ? 1 : 0, 1);
        check.end();
    }

    /** Class loading and the like take some bytes; a row made in each call would take far more. */
    private static long bytesOfDearCalls() {
        ThreadMXBean threads = (ThreadMXBean) ManagementFactory.getThreadMXBean();
        long thread = Thread.currentThread().getId();
        long least = Long.MAX_VALUE;
        for (int round = 0; round < 5; round++) {
            EightWays x = Check.netOf("s0 0;s9 0;s9 9;s0 9;s3 3;s5 7;s1 1;s4 4;e0 1;e1 2;e2 3;e3 4;e4 5;e5 6;e6 7;l0 7;l7 0;l0 7;");
            long before = threads.getThreadAllocatedBytes(thread);
            for (int call = 0; call < 100; call++) {
                x.drift(call + 1);
                x.told(8);
                x.told(9);
                x.plans();
                x.would(call % 7, call % 8);
            }
            least = Math.min(least, threads.getThreadAllocatedBytes(thread) - before);
        }
        return least;
    }

    private static int any(Random lots, int n) {
        return lots.nextInt(10) == 0 ? ODD[lots.nextInt(ODD.length)] : lots.nextInt(n);
    }

    private static int anyCall(EightWays x, Random lots) {
        int a = any(lots, 8);
        int b = any(lots, 8);
        switch (lots.nextInt(26)) {
            case 0: return x.net();
            case 1: return x.fault(a);
            case 2: return x.told(any(lots, 13));
            case 3: return x.station(a, b);
            case 4: return x.stretch(a, b);
            case 5: return x.line(any(lots, 3), b);
            case 6: return x.along(any(lots, 3), b);
            case 7: return x.fix(a, b);
            case 8: return x.loose(a);
            case 9: return x.count(a, b);
            case 10: return x.move(a, any(lots, 100), any(lots, 100));
            case 11: return x.drift(any(lots, 1000000));
            case 12: return x.undo();
            case 13: return x.bend(a, b);
            case 14: return x.would(a, b);
            case 15: return x.plans();
            case 16: return x.order(a, b);
            case 17: return x.crossings(a);
            case 18: return x.cross(any(lots, 3), any(lots, 3));
            case 19: return x.keep(any(lots, 2));
            case 20: return x.goBack(any(lots, 2));
            case 21: Check.feed(x, "s" + lots.nextInt(100) + " " + lots.nextInt(100) + ";"); return 0;
            case 22: Check.feed(x, "e" + lots.nextInt(3) + " " + lots.nextInt(4) + ";"); return 0;
            case 23: Check.feed(x, "l" + lots.nextInt(3) + " " + lots.nextInt(4) + ";"); return 0;
            case 24: Check.feed(x, "s1 1;s2 2;s9 7;s3 8;e0 1;e1 2;e3 1;l0 3;"); return x.net();
            default: return x.feed(any(lots, 256));
        }
    }
}
