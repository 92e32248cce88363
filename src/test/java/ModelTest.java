import java.util.ArrayList;
import java.util.Arrays;
import java.util.List;
import java.util.Random;

/**
 * Runs of calls by chance, each answer held against the model's, which is the document written down once
 * more in a plainer form: all promises. Arguments: how many runs, and from which seed on.
 */
final class ModelTest {
    private static final int CALLS_MOST = 512;
    private static final long[] ODD = {0, 1, 2, 3, 4, 5, 7, 8, 63, 64, 100, 127, 128, 255, 256, 1000, 1L << 32, -1,
        Long.MIN_VALUE, Long.MAX_VALUE};
    // How often publications had each fault, and calls each outcome and error.
    private static final int[] FAULTS = new int[64];
    private static final int[] OUTCOMES = new int[5];
    private static final int[] ERRORS = new int[6];

    private final int seed;
    private final Random random;
    private final ResourceLedger x;
    private final ModelLedger y = new ModelLedger();
    private int calls;

    private ModelTest(int seed) {
        this.seed = seed;
        random = new Random(seed);
        x = new ResourceLedger(random.nextInt(12) - 2);
    }

    public static void main(String[] args) {
        int runs = args.length > 0 ? Integer.parseInt(args[0]) : 600;
        int from = args.length > 1 ? Integer.parseInt(args[1]) : 0;
        for (int seed = from; seed < from + runs; seed++) {
            new ModelTest(seed).run();
        }
        System.out.println("faults " + Arrays.toString(FAULTS) + ", outcomes " + Arrays.toString(OUTCOMES)
            + ", errors " + Arrays.toString(ERRORS));
        // Chance is worth something only as long as it comes to all of these.
        for (int outcome = 0; outcome <= 3; outcome++) {
            Check.due("calls came to outcome " + outcome, OUTCOMES[outcome] > 0, true);
        }
        for (int error = 1; error <= 5; error++) {
            Check.due("calls came to error " + error, ERRORS[error] > 0, true);
        }
        for (int fault : new int[] {0, 3, 4, 5, 14, 21, 22, 23, 24, 31, 33, 34, 35, 36, 38, 40, 41, 42}) {
            Check.due("publications came to fault " + fault, FAULTS[fault] > 0, true);
        }
        Check.end();
    }

    /** Behind the 512th call answers are free. */
    private void due(String call, long got, long want) {
        calls++;
        if (calls <= CALLS_MOST) {
            Check.due("seed " + seed + ", call " + calls + ": " + call, got, want);
        }
    }

    private void run() {
        for (long a = 1; a <= 4; a++) {
            long coins = random.nextInt(5) == 0 ? random.nextInt(30000) : 1_000_000_000L + random.nextInt(1000);
            due("mint", x.mint(a, coins) ? 1 : 0, y.mint(a, coins) ? 1 : 0);
        }
        for (int number = 7; calls < CALLS_MOST; number++) {
            ModelMaker maker = new ModelMaker(random, y.modules());
            byte[] module = maker.make(random.nextInt(20) == 0 ? 7 : number);
            publish(random.nextBoolean() ? maker.spoil() : module);
            for (int k = 0; k < 3 && calls < CALLS_MOST; k++) {
                callSome();
                callOddly();
            }
        }
    }

    private void publish(byte[] bytes) {
        int most = Math.min(bytes.length, 2048);
        for (int i = 0; i < most; i += 8) {
            int n = Math.min(8, most - i);
            long word = 0;
            for (int k = 0; k < n; k++) {
                word = word << 8 | bytes[i + k] & 255;
            }
            due("type", x.type(word, n), y.type(word, n));
        }
        due("begin", x.begin(), y.begin());
        long sequence = y.account(1, 1);
        due("publish", x.publish(1, sequence, 2000), y.publish(1, sequence, 2000));
        due("execute", x.execute(), y.execute());
        askAll();
        int outcome = y.told(0, 0);
        if (outcome == 0 || outcome == 4) {
            FAULTS[(int) y.code(0)]++;
        }
    }

    private void callSome() {
        due("begin", x.begin(), y.begin());
        long[] sent = new long[5];
        for (int n = 0; n < 6; n++) {
            int sender = 1 + random.nextInt(4);
            ModelModule m = any(new ArrayList<>(y.modules().values()));
            ModelModule.Function f = m.ownFunctions == 0 ? null : m.functions.get(random.nextInt(m.ownFunctions));
            if (f == null || !isOpen(f) && random.nextInt(10) != 0) {
                continue;
            }
            long sequence = y.account(sender, 1) + sent[sender] + (random.nextInt(30) == 0 ? 1 : 0);
            sent[sender] += isOpen(f) ? 1 : 0;
            int limit = 10 + random.nextInt(random.nextInt(4) == 0 ? 100 : random.nextInt(6) == 0 ? 19991 : 1500);
            due("call", x.call(sender, sequence, limit, m.number, f.number),
                y.call(sender, sequence, limit, m.number, f.number));
            f.takes.forEach(t -> argue(t.get(0)));
        }
        due("execute", x.execute(), y.execute());
        askAll();
        for (int t = 0; y.told(t, 0) >= 0; t++) {
            OUTCOMES[y.told(t, 0)]++;
            ERRORS[y.told(t, 0) == 2 ? (int) y.code(t) : 0]++;
        }
    }

    private <T> T any(List<T> list) {
        return list.get(random.nextInt(list.size()));
    }

    private static boolean isOpen(ModelModule.Function f) {
        return (f.flags & 2) != 0 && f.takes.stream().allMatch(t -> t.get(0) <= 5)
            && f.gives.stream().allMatch(t -> t.get(0) <= 5);
    }

    private void argue(int type) {
        long low = ODD[random.nextInt(ODD.length)];
        long high = type == 4 ? ODD[random.nextInt(ODD.length)] : 0;
        if (type == 1) {
            low &= 1;
        } else if (type == 2) {
            low &= 255;
        } else if (type == 5) {
            low = 1 + random.nextInt(5);
        }
        due("argument", x.argument(type, high, low), y.argument(type, high, low));
    }

    private int oddInt() {
        return random.nextInt(3) == 0 ? (int) ODD[random.nextInt(ODD.length)] : random.nextInt(10) - 1;
    }

    /** Calls with any arguments, mostly such as are refused. */
    private void callOddly() {
        for (int n = 0; n < 4; n++) {
            int i = oddInt();
            int j = oddInt();
            int k = oddInt();
            long a = ODD[random.nextInt(ODD.length)];
            long b = ODD[random.nextInt(ODD.length)];
            String with = " " + i + " " + j + " " + k + " " + a + " " + b;
            switch (random.nextInt(14)) {
                case 0: due("weave" + with, x.weave(a), y.weave(a)); break;
                case 1: due("unweave", x.unweave(), y.unweave()); break;
                case 2: due("argument" + with, x.argument(i, a, b), y.argument(i, a, b)); break;
                case 3: due("told" + with, x.told(i, j), y.told(i, j)); break;
                case 4: due("code" + with, x.code(i), y.code(i)); break;
                case 5: due("result" + with, x.result(i, j, k), y.result(i, j, k)); break;
                case 6: due("account" + with, x.account(a, i), y.account(a, i)); break;
                case 7: due("coins" + with, x.coins(i), y.coins(i)); break;
                case 8: due("places" + with, x.places(i), y.places(i)); break;
                case 9: due("root" + with, x.root(i), y.root(i)); break;
                case 10: due("byteOf" + with, x.byteOf(i), y.byteOf(i)); break;
                case 11: due("resource" + with, x.resource(a, i, j), y.resource(a, i, j)); break;
                case 12: due("publish" + with, x.publish(a, b, i), y.publish(a, b, i)); break;
                default: due("call" + with, x.call(a, b, 1000 * i, j, k), y.call(a, b, 1000 * i, j, k)); break;
            }
        }
        due("execute", x.execute(), y.execute());
    }

    private void askAll() {
        for (int t = 0; y.told(t, 0) >= 0; t++) {
            for (int what = 0; what < 4; what++) {
                due("told " + t + " " + what, x.told(t, what), y.told(t, what));
            }
            due("code " + t, x.code(t), y.code(t));
            for (int i = 0; i < y.told(t, 2); i++) {
                for (int what = 0; what < 3; what++) {
                    due("result " + t + " " + i + " " + what, x.result(t, i, what), y.result(t, i, what));
                }
            }
        }
        int i = random.nextInt(4);
        due("coins " + i, x.coins(i), y.coins(i));
        due("places " + i, x.places(i), y.places(i));
        due("root " + i, x.root(i), y.root(i));
        due("account " + (i + 1), x.account(i + 1, 0), y.account(i + 1, 0));
        due("slips", x.slips(), y.slips());
        Check.due("seed " + seed + ": references to what is gone", y.slips(), 0);
        if (!y.resources().isEmpty() && random.nextInt(3) == 0) {
            askResource(any(new ArrayList<>(y.resources())));
        }
    }

    private void askResource(ModelState.Key k) {
        due("resource", x.resource(k.address(), k.module(), k.structure()),
            y.resource(k.address(), k.module(), k.structure()));
        for (int i = 0; i <= 20; i++) {
            due("byteOf " + i, x.byteOf(i), y.byteOf(i));
        }
    }
}
