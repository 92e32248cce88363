import java.math.BigInteger;

/**
 * Part 4: what is reckoned with numbers of 8, 64 and 128 bits, at their edges. Sentences of the
 * document stand in quotes.
 */
final class NumberEdgesTest {
    private static final String[] TYPES = {"byte", "long", "wide"};
    private static final int[] BITS = {8, 64, 128};
    private static final String[] OPERATIONS = {"add", "sub", "mul", "div", "rem", "and", "or", "xor", "below", "notabove", "above",
        "notbelow", "same", "differ"};
    private static final BigInteger ONE = BigInteger.ONE;

    private NumberEdgesTest() {
    }

    public static void main(String[] args) {
        for (int t = 0; t < TYPES.length; t++) {
            pairs(t);
            bounds(t);
            shifts(t);
            for (int to = 0; to < TYPES.length; to++) {
                casts(t, to);
            }
        }
        truths();
        addresses();
        Check.end();
    }

    private static BigInteger power(int bits) {
        return ONE.shiftLeft(bits);
    }

    private static String word(int t, BigInteger n) {
        String low = n.mod(power(64)).toString();
        return TYPES[t] + ":" + (t == 2 ? n.shiftRight(64) + ":" + low : low);
    }

    /** A number as Bench.tell writes it. */
    private static String told(int t, BigInteger n) {
        return t == 2 ? n.shiftRight(64) + ":" + n.mod(power(64)) : n.toString();
    }

    /** What one of the operations gives for two numbers, in the words of Bench.tell. */
    private static String due(int t, int i, BigInteger a, BigInteger b) {
        int order = a.compareTo(b);
        if (i >= 8) {
            boolean[] so = {order < 0, order <= 0, order > 0, order >= 0, order == 0, order != 0};
            return (i < 12 ? "DONE gas 4 " : "DONE gas 6 ") + (so[i - 8] ? 1 : 0);
        }
        if ((i == 3 || i == 4) && b.signum() == 0) {
            return "ERROR 1 gas 3";
        }
        BigInteger r = i == 0 ? a.add(b) : i == 1 ? a.subtract(b) : i == 2 ? a.multiply(b) : i == 3 ? a.divide(b)
            : i == 4 ? a.mod(b) : i == 5 ? a.and(b) : i == 6 ? a.or(b) : a.xor(b);
        boolean beyond = r.signum() < 0 || r.bitLength() > BITS[t];
        return beyond ? "ERROR 1 gas 3" : "DONE gas 4 " + told(t, r);
    }

    private static byte[] module(int t) {
        Assembly module = new Assembly(7);
        for (int i = 0; i < OPERATIONS.length; i++) {
            String gives = i < 8 ? TYPES[t] : "truth";
            module.function(2, TYPES[t] + " " + TYPES[t], gives, "", "move 0; move 1; " + OPERATIONS[i] + "; ret");
        }
        return module.toBytes();
    }

    private static Bench bench(byte[] module) {
        Bench bench = new Bench();
        Check.due("module", bench.publish(module), "DONE");
        return bench;
    }

    /** "numbers of 8, 64, 128 bits without sign": each operation with each two numbers that lie at an edge. */
    private static void pairs(int t) {
        int bits = BITS[t];
        BigInteger[] some = {BigInteger.ZERO, ONE, BigInteger.TWO, power(bits / 2).subtract(ONE), power(bits / 2),
            power(bits / 2).add(ONE), power(bits - 1).subtract(ONE), power(bits - 1), power(bits).subtract(BigInteger.TWO),
            power(bits).subtract(ONE)};
        byte[] module = module(t);
        for (BigInteger a : some) {
            for (BigInteger b : some) {
                Bench bench = bench(module);
                for (int i = 0; i < OPERATIONS.length; i++) {
                    Check.due(a + " " + OPERATIONS[i] + " " + b, bench.run(7, i, word(t, a), word(t, b)), due(t, i, a, b));
                }
            }
        }
    }

    /** "ERROR 1 when it is beyond its bits or below 0, or the second one is 0": the last that is not, and the first that is. */
    private static void bounds(int t) {
        BigInteger most = power(BITS[t]).subtract(ONE);
        Bench bench = bench(module(t));
        for (BigInteger a : new BigInteger[] {BigInteger.ZERO, ONE, BigInteger.valueOf(100), most.subtract(ONE), most}) {
            BigInteger rest = most.subtract(a);
            two(bench, t, 0, a, rest);
            if (rest.compareTo(most) < 0) {
                two(bench, t, 0, a, rest.add(ONE));
            }
            two(bench, t, 1, a, a);
            if (a.compareTo(most) < 0) {
                two(bench, t, 1, a, a.add(ONE));
            }
        }
        bench = bench(module(t));
        for (BigInteger a : new BigInteger[] {BigInteger.TWO, BigInteger.valueOf(3), BigInteger.valueOf(15), power(BITS[t] / 2), most}) {
            BigInteger factor = most.divide(a);
            two(bench, t, 2, a, factor);
            two(bench, t, 2, factor, a);
            two(bench, t, 2, a, factor.add(ONE));
            two(bench, t, 2, factor.add(ONE), a);
            two(bench, t, 3, a, ONE);
            two(bench, t, 4, a, a);
        }
    }

    private static void two(Bench bench, int t, int i, BigInteger a, BigInteger b) {
        Check.due(a + " " + OPERATIONS[i] + " " + b, bench.run(7, i, word(t, a), word(t, b)), due(t, i, a, b));
    }

    /** "32 33 shifts up, down by the byte: ERROR 1 when that is not below the number's bits; what goes beyond is lost" */
    private static void shifts(int t) {
        int bits = BITS[t];
        byte[] module = new Assembly(7)
            .function(2, TYPES[t] + " byte", TYPES[t], "", "move 0; move 1; up; ret")
            .function(2, TYPES[t] + " byte", TYPES[t], "", "move 0; move 1; down; ret").toBytes();
        BigInteger most = power(bits).subtract(ONE);
        for (BigInteger a : new BigInteger[] {BigInteger.ZERO, ONE, power(bits - 1), power(bits / 2).add(ONE), most}) {
            Bench bench = bench(module);
            for (int by : new int[] {0, 1, 7, 8, 63, 64, 65, 127, 128, 255}) {
                boolean fits = by < bits;
                String up = fits ? "DONE gas 4 " + told(t, a.shiftLeft(by).and(most)) : "ERROR 1 gas 3";
                String down = fits ? "DONE gas 4 " + told(t, a.shiftRight(by)) : "ERROR 1 gas 3";
                Check.due(a + " up by " + by, bench.run(7, 0, word(t, a), "byte:" + by), up);
                Check.due(a + " down by " + by, bench.run(7, 1, word(t, a), "byte:" + by), down);
            }
        }
    }

    /** "42 43 44 the same number in so many bits: ERROR 1 when it is beyond them" */
    private static void casts(int from, int to) {
        Bench bench = bench(new Assembly(7).function(2, TYPES[from], TYPES[to], "", "move 0; to" + TYPES[to] + "; ret").toBytes());
        for (int bits : new int[] {0, 1, 7, 8, 63, 64, 127, 128}) {
            for (int more = -1; more <= 1; more++) {
                BigInteger a = power(bits).add(BigInteger.valueOf(more));
                if (a.bitLength() <= BITS[from]) {
                    String due = a.bitLength() <= BITS[to] ? "DONE gas 3 " + told(to, a) : "ERROR 1 gas 2";
                    Check.due(a + " to " + TYPES[to], bench.run(7, 0, word(from, a)), due);
                }
            }
        }
    }

    /** "29 30 31 and, or, xor", "34 not", "36 37 whether two values are alike, or not": of truths. */
    private static void truths() {
        Bench bench = bench(new Assembly(7)
            .function(2, "truth truth", "truth", "", "move 0; move 1; and; ret")
            .function(2, "truth truth", "truth", "", "move 0; move 1; or; ret")
            .function(2, "truth truth", "truth", "", "move 0; move 1; xor; ret")
            .function(2, "truth truth", "truth", "", "move 0; move 1; same; ret")
            .function(2, "truth truth", "truth", "", "move 0; move 1; differ; ret")
            .function(2, "truth", "truth", "", "move 0; not; ret").toBytes());
        for (int a = 0; a < 2; a++) {
            for (int b = 0; b < 2; b++) {
                int[] due = {a & b, a | b, a ^ b, a == b ? 1 : 0, a == b ? 0 : 1};
                for (int i = 0; i < 5; i++) {
                    Check.due("truths " + a + " " + b + " " + i, bench.run(7, i, "truth:" + a, "truth:" + b),
                        "DONE gas " + (i < 3 ? 4 : 6) + " " + due[i]);
                }
            }
            Check.due("not " + a, bench.run(7, 5, "truth:" + a), "DONE gas 3 " + (1 - a));
        }
    }

    /** "addresses are 64 bits": two are alike when all of them are. */
    private static void addresses() {
        Bench bench = bench(new Assembly(7).function(2, "addr addr", "truth", "", "move 0; move 1; same; ret").toBytes());
        String[] some = {"0", "1", "4294967296", "4294967297", "9223372036854775807", "9223372036854775808", "18446744073709551615"};
        for (String a : some) {
            for (String b : some) {
                if (a.compareTo(b) <= 0) {
                    Check.due(a + " and " + b, bench.run(7, 0, "addr:" + a, "addr:" + b), "DONE gas 6 " + (a.equals(b) ? 1 : 0));
                }
            }
        }
    }
}
