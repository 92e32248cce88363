import java.lang.management.ManagementFactory;
import java.util.Random;

/**
 * Promise 20 and the room: no slips, no failing and next to nothing made, whatever is typed,
 * published and called.
 */
final class RoomTest {
    private static final com.sun.management.ThreadMXBean THREADS =
        (com.sun.management.ThreadMXBean) ManagementFactory.getThreadMXBean();

    private RoomTest() {
    }

    public static void main(String[] args) {
        heavyCalls();
        spoiledModules();
        anyCalls();
        Check.end();
    }

    private static long made() {
        return THREADS.getThreadAllocatedBytes(Thread.currentThread().getId());
    }

    /** Calls that make as many values as their gas lets them. */
    private static Assembly heavy() {
        String pairs = "unpack 0; pack 0; ".repeat(40);
        return new Assembly(7).structure(7, "long long long long long long long long").structure(15, "*wide")
            .element("wide").element("S0").element("byte").element("*S0")
            .function(2, "", "", "S0", "long 1; ".repeat(8) + "pack 0; store 0; copy 0; pop; go 10")
            .function(2, "", "", "S0", "long 1; ".repeat(8) + "pack 0; store 0; copy 0; " + pairs + "pop; go 10")
            .function(2, "", "", "*S0", "vector 1 0; store 0; lend! 0; " + "long 1; ".repeat(8) + "pack 0; push 1; go 2")
            .function(2, "", "", "*byte", "vector 2 0; store 0; move 0; digest; store 0; go 2")
            .function(6, "", "", "", "sender; has 1; goif 7; wide 1 2; vector 0 1; pack 1; put 1; sender; borrow 1; "
                + "field 1 0; length 0; pop; go 7")
            .function(2, "", "", "**S0", "vector 3 0; store 0; lend! 0; vector 1 0; push 3; copy 0; pop; go 2");
    }

    private static void heavyCalls() {
        // Once before it is counted, so that what the machine itself makes at first does not count.
        byte[] module = heavy().toBytes();
        work(new ResourceLedger(1), module);
        long before = made();
        ResourceLedger x = new ResourceLedger(3);
        long built = made() - before;
        Check.due("a new object is small: " + built, built < 3_000_000, true);
        before = made();
        work(x, module);
        long later = made() - before;
        Check.due("calls make next to nothing: " + later, later < 60_000, true);
        Check.due("slips", x.slips(), 0);
    }

    private static void work(ResourceLedger x, byte[] module) {
        x.mint(1, 1L << 40);
        for (int i = 0; i < module.length; i += 4) {
            int n = Math.min(4, module.length - i);
            int word = 0;
            for (int k = 0; k < n; k++) {
                word = word << 8 | module[i + k] & 255;
            }
            x.type(word, n);
        }
        x.publish(1, 0, 2000);
        x.execute();
        int sequence = 1;
        for (int block = 0; block < 3; block++) {
            x.begin();
            for (int i = 0; i < 32; i++) {
                x.call(1, sequence++, 20000, 7, i % 6);
            }
            x.execute();
            x.root(0);
        }
        Check.due("all were called", x.account(1, 1), sequence);
    }

    /** Modules with bytes changed: mostly faulty; what is taken is done without a slip. */
    private static void spoiledModules() {
        Random random = new Random(11);
        byte[] whole = heavy().toBytes();
        int taken = 0;
        for (int round = 0; round < 3000; round++) {
            byte[] bytes = whole.clone();
            for (int k = 0; k <= random.nextInt(3); k++) {
                bytes[random.nextInt(bytes.length)] = (byte) random.nextInt(random.nextBoolean() ? 256 : 60);
            }
            Bench bench = new Bench();
            if (!bench.publish(bytes).equals("DONE")) {
                continue;
            }
            taken++;
            int module = (bytes[4] & 255) << 8 | bytes[5] & 255;
            for (int f = 0; f < 6; f++) {
                bench.run(1, 3000, module, f);
            }
            ResourceLedger x = bench.ledger;
            Check.due("slips", x.slips(), 0);
            Check.due("coins", x.coins(2) + x.coins(3), x.coins(0) - x.coins(1));
        }
        Check.due("some are taken: " + taken, taken > 100, true);
    }

    /** Any calls with any arguments end, also far more than 512. */
    private static void anyCalls() {
        long[] odd = {0, 1, 2, 3, 5, 7, 8, 10, 31, 32, 63, 64, 255, 256, 300, 20000, -1, -2, Long.MIN_VALUE,
            Long.MAX_VALUE, Integer.MIN_VALUE, Integer.MAX_VALUE, 65535, 65536};
        Random random = new Random(3);
        byte[] module = heavy().toBytes();
        for (int round = 0; round < 40; round++) {
            ResourceLedger x = new ResourceLedger((int) odd[random.nextInt(odd.length)]);
            int next = 0;
            for (int n = 0; n < 3000; n++) {
                long a = odd[random.nextInt(odd.length)];
                long b = odd[random.nextInt(odd.length)];
                long c = random.nextInt(4) == 0 ? odd[random.nextInt(odd.length)] : random.nextInt(8);
                int small = random.nextInt(8);
                switch (random.nextInt(22)) {
                    case 0: x.mint(small, b); break;
                    case 1: x.begin(); break;
                    case 2: x.publish(small, x.account(small, 1), (int) a); break;
                    case 3: x.call(small, x.account(small, 1), 20000, 7, small); break;
                    case 4: x.call(a, b, (int) a, (int) b, (int) c); break;
                    case 5: x.argument((int) c, a, b); break;
                    case 6: x.weave(a); break;
                    case 7: x.unweave(); break;
                    case 8: x.execute(); break;
                    case 9: x.told((int) a, (int) c); break;
                    case 10: x.code((int) a); break;
                    case 11: x.result((int) a, (int) b, (int) c); break;
                    case 12: x.account(a, (int) c); break;
                    case 13: x.coins((int) c); break;
                    case 14: x.places((int) c); break;
                    case 15: x.resource(small, 7, 1); break;
                    case 16: x.resource(a, (int) b, (int) c); break;
                    case 17: x.byteOf((int) a); break;
                    case 18: x.root((int) c); break;
                    case 19: x.type(a, (int) c); break;
                    default:
                        for (int k = 0; k < 40; k++) {
                            x.type(module[next++ % module.length], 1);
                        }
                        break;
                }
            }
            Check.due("slips", x.slips(), 0);
            Check.due("coins", x.coins(2) + x.coins(3), x.coins(0) - x.coins(1));
        }
    }
}
