import java.math.BigInteger;
import java.security.MessageDigest;
import java.security.NoSuchAlgorithmException;
import java.util.Random;

/** Doing code: what each operation gives, its gas, and its errors. */
final class DoTest {
    private DoTest() {
    }

    public static void main(String[] args) throws NoSuchAlgorithmException {
        numbers();
        wides();
        comparing();
        constants();
        localsAndReferences();
        structures();
        vectors();
        manyElements();
        digests();
        branches();
        calls();
        frames();
        gas();
        Check.end();
    }

    /** Does one entry function of a module of its own. */
    private static void once(String want, String takes, String gives, String locals, String code, String... arguments) {
        Bench bench = new Bench();
        Assembly module = new Assembly(7).structure(7, "long *byte truth").structure(4, "long")
            .element("long").element("byte").element("S0").element("S1").element("*long")
            .function(2, takes, gives, locals, code);
        Check.due("published " + code, bench.publish(module), "DONE");
        Check.due(code + " of " + String.join(" ", arguments), bench.run(7, 0, arguments), want);
        Check.due("slips", bench.ledger.slips(), 0);
    }

    private static void two(String type, String op, String a, String b, String want) {
        String given = want.startsWith("ERROR") ? want + " gas 3" : "DONE gas 4 " + want;
        once(given, type + " " + type, type, "", "move 0; move 1; " + op + "; ret", type + ":" + a, type + ":" + b);
    }

    private static void numbers() {
        two("byte", "add", "200", "55", "255");
        two("byte", "add", "200", "56", "ERROR 1");
        two("byte", "sub", "7", "7", "0");
        two("byte", "sub", "7", "8", "ERROR 1");
        two("byte", "mul", "17", "15", "255");
        two("byte", "mul", "16", "16", "ERROR 1");
        two("byte", "div", "200", "7", "28");
        two("byte", "rem", "200", "7", "4");
        two("byte", "div", "200", "0", "ERROR 1");
        two("byte", "rem", "200", "0", "ERROR 1");
        two("long", "add", "18446744073709551614", "1", "18446744073709551615");
        two("long", "add", "18446744073709551615", "1", "ERROR 1");
        two("long", "sub", "9223372036854775808", "1", "9223372036854775807");
        two("long", "sub", "0", "18446744073709551615", "ERROR 1");
        two("long", "mul", "4294967295", "4294967297", "18446744073709551615");
        two("long", "mul", "4294967296", "4294967296", "ERROR 1");
        two("long", "div", "18446744073709551615", "10", "1844674407370955161");
        two("long", "rem", "18446744073709551615", "10", "5");
        two("long", "div", "5", "18446744073709551615", "0");
        two("long", "rem", "1", "0", "ERROR 1");
        two("long", "and", "12", "10", "8");
        two("long", "or", "12", "10", "14");
        two("long", "xor", "12", "10", "6");
        two("truth", "and", "1", "0", "0");
        two("truth", "or", "1", "0", "1");
        two("truth", "xor", "1", "1", "0");
        once("DONE gas 3 0", "truth", "truth", "", "move 0; not; ret", "truth:1");
        once("DONE gas 3 1", "truth", "truth", "", "move 0; not; ret", "truth:0");
        shift("byte", "up", "129", 1, "2");
        shift("byte", "up", "1", 7, "128");
        shift("byte", "up", "1", 8, "ERROR 1");
        shift("byte", "down", "129", 7, "1");
        shift("byte", "down", "129", 8, "ERROR 1");
        shift("byte", "up", "77", 0, "77");
        shift("long", "up", "3", 63, "9223372036854775808");
        shift("long", "up", "3", 64, "ERROR 1");
        shift("long", "down", "18446744073709551615", 63, "1");
        shift("long", "down", "18446744073709551615", 255, "ERROR 1");
        cast("long", "tobyte", "255", "255");
        cast("long", "tobyte", "256", "ERROR 1");
        cast("wide", "tobyte", "1:0", "ERROR 1");
        cast("wide", "tolong", "0:18446744073709551615", "18446744073709551615");
        cast("wide", "tolong", "1:0", "ERROR 1");
        cast("byte", "tolong", "9", "9");
        cast("long", "towide", "18446744073709551615", "0:18446744073709551615");
        cast("wide", "towide", "7:8", "7:8");
        cast("byte", "tobyte", "255", "255");
    }

    private static void shift(String type, String op, String a, int by, String want) {
        String given = want.startsWith("ERROR") ? want + " gas 3" : "DONE gas 4 " + want;
        once(given, type + " byte", type, "", "move 0; move 1; " + op + "; ret", type + ":" + a, "byte:" + by);
    }

    private static void cast(String type, String op, String a, String want) {
        String given = want.startsWith("ERROR") ? want + " gas 2" : "DONE gas 3 " + want;
        once(given, type, op.substring(2), "", "move 0; " + op + "; ret", type + ":" + a);
    }

    /** Wides against BigInteger, with halves that lie at the edges. */
    private static void wides() {
        String[] operations = {"add", "sub", "mul", "div", "rem", "and", "or", "xor", "below", "notabove", "above",
            "notbelow", "same", "differ"};
        Assembly module = new Assembly(7);
        for (int i = 0; i < operations.length; i++) {
            module.function(2, "wide wide", i < 8 ? "wide" : "truth", "", "move 0; move 1; " + operations[i] + "; ret");
        }
        module.function(2, "wide byte", "wide", "", "move 0; move 1; up; ret");
        module.function(2, "wide byte", "wide", "", "move 0; move 1; down; ret");
        Random random = new Random(5);
        for (int round = 0; round < 60; round++) {
            Bench bench = new Bench();
            bench.publish(module);
            for (int i = 0; i < 16; i++) {
                BigInteger a = some(random);
                BigInteger b = i < 14 ? some(random) : BigInteger.valueOf(random.nextInt(140));
                String second = i < 14 ? halves(b) : "byte:" + b;
                String got = bench.run(7, i, halves(a), second);
                Check.due(a + " " + (i < 14 ? operations[i] : "shift " + (i - 14)) + " " + b, got, reckon(i, a, b));
            }
        }
    }

    private static final BigInteger BOUND = BigInteger.ONE.shiftLeft(128);

    private static BigInteger some(Random random) {
        BigInteger n = new BigInteger(random.nextInt(129), random);
        switch (random.nextInt(6)) {
            case 0:
                return BOUND.subtract(BigInteger.ONE).subtract(BigInteger.valueOf(random.nextInt(3)));
            case 1:
                return BigInteger.valueOf(random.nextInt(4));
            case 2:
                return BigInteger.ONE.shiftLeft(64).add(BigInteger.valueOf(random.nextInt(3) - 1));
            default:
                return n;
        }
    }

    private static String halves(BigInteger n) {
        return "wide:" + n.shiftRight(64) + ":" + n.and(BigInteger.ONE.shiftLeft(64).subtract(BigInteger.ONE));
    }

    private static String reckon(int i, BigInteger a, BigInteger b) {
        BigInteger r;
        switch (i) {
            case 0: r = a.add(b); break;
            case 1: r = a.subtract(b); break;
            case 2: r = a.multiply(b); break;
            case 3: r = b.signum() == 0 ? null : a.divide(b); break;
            case 4: r = b.signum() == 0 ? null : a.mod(b); break;
            case 5: r = a.and(b); break;
            case 6: r = a.or(b); break;
            case 7: r = a.xor(b); break;
            case 14: r = b.intValue() >= 128 ? null : a.shiftLeft(b.intValue()).mod(BOUND); break;
            case 15: r = b.intValue() >= 128 ? null : a.shiftRight(b.intValue()); break;
            default: return comparison(i, a.compareTo(b));
        }
        if (r == null || r.signum() < 0 || r.compareTo(BOUND) >= 0) {
            return "ERROR 1 gas 3";
        }
        return "DONE gas 4 " + halves(r).substring(5);
    }

    private static String comparison(int i, int order) {
        boolean[] so = {order < 0, order <= 0, order > 0, order >= 0, order == 0, order != 0};
        // Whether two are alike costs both sizes besides.
        return (i < 12 ? "DONE gas 4 " : "DONE gas 6 ") + (so[i - 8] ? 1 : 0);
    }

    private static void comparing() {
        String[] all = {"below", "notabove", "above", "notbelow"};
        for (String type : new String[] {"byte", "long"}) {
            String big = type.equals("byte") ? "200" : "9223372036854775808";
            for (int i = 0; i < 4; i++) {
                String code = "move 0; move 1; " + all[i] + "; ret";
                once("DONE gas 4 " + (i < 2 ? 1 : 0), type + " " + type, "truth", "", code, type + ":3", type + ":" + big);
                once("DONE gas 4 " + (i < 2 ? 0 : 1), type + " " + type, "truth", "", code, type + ":" + big, type + ":3");
                once("DONE gas 4 " + (i % 2), type + " " + type, "truth", "", code, type + ":3", type + ":3");
            }
        }
        // Structures and vectors: 1 and the sizes of what they hold.
        String pair = "long 1; byte 2; byte 3; vector 1 2; yes; pack 0; ";
        // 5 for a pair's parts, 2 besides for the vector, 1 for packing: 8; each pair's size is 6.
        once("DONE gas 30 1", "", "truth", "", pair + pair + "same; ret");
        once("DONE gas 30 0", "", "truth", "", pair + pair + "differ; ret");
        once("DONE gas 30 0", "", "truth", "", pair + pair.replace("byte 3", "byte 4") + "same; ret");
        once("DONE gas 30 0", "", "truth", "", pair + pair.replace("yes", "no") + "same; ret");
        once("DONE gas 9 0", "", "truth", "", "long 1; vector 0 1; vector 0 0; same; ret");
        once("DONE gas 6 1", "", "truth", "", "vector 0 0; vector 0 0; same; ret");
        once("DONE gas 6 1", "addr addr", "truth", "", "move 0; move 1; same; ret", "addr:5", "addr:5");
        once("DONE gas 6 0", "addr addr", "truth", "", "move 0; move 1; same; ret", "addr:5", "addr:-5");
    }

    private static void constants() {
        once("DONE gas 8 255 18446744073709551615 1:2 1 0 77 1", "", "byte long wide truth truth addr addr", "",
            "byte 255; long -1; wide 1 2; yes; no; addr 77; sender; ret");
        once("DONE gas 3", "", "", "", "nothing; nothing; ret");
        once("ABORTED -1 gas 2", "", "", "", "long -1; abort");
        once("ABORTED 0 gas 2", "", "", "", "long 0; abort");
        once("ABORTED 5 gas 3", "long", "long", "", "move 0; long 5; abort", "long:3");
    }

    private static void localsAndReferences() {
        once("DONE gas 4 4 4", "long", "long long", "", "copy 0; move 0; ret", "long:4");
        once("DONE gas 5 4", "long", "long", "long", "move 0; store 1; copy 1; ret", "long:4");
        once("DONE gas 7 4", "long", "long", "&long", "lend 0; store 1; copy 1; read; ret", "long:4");
        once("DONE gas 6 9", "long long", "long", "", "move 1; lend! 0; write; copy 0; ret", "long:4", "long:9");
        once("DONE gas 5 4", "long", "long", "", "lend! 0; freeze; read; ret", "long:4");
        // Another reference to the whole sees what was written.
        once("DONE gas 11 9", "long long", "long", "&!long",
            "lend! 0; store 2; move 1; copy 2; write; copy 2; read; ret", "long:4", "long:9");
        // A copy costs its size, and goes its own way.
        once("DONE gas 18", "", "", "S0",
            "long 1; byte 2; byte 3; vector 1 2; yes; pack 0; store 0; copy 0; pop; ret");
        once("DONE gas 16 1 2", "", "long long", "*long *long",
            "long 1; vector 0 1; store 0; copy 0; store 1; lend! 1; long 9; push 0; lend 0; length 0; lend 1; length 0; ret");
    }

    private static void structures() {
        once("DONE gas 9 7 1", "", "long truth", "truth",
            "long 7; vector 1 0; yes; pack 0; unpack 0; store 0; pop; move 0; ret");
        once("DONE gas 22 8 1", "", "long truth", "S0",
            "long 7; vector 1 0; no; pack 0; store 0; yes; lend! 0; field! 0 2; write; long 8; lend! 0; field! 0 0; write; "
            + "lend 0; field 0 0; read; lend 0; field 0 2; read; ret");
        once("DONE gas 16 9", "", "byte", "S0",
            "long 7; vector 1 0; no; pack 0; store 0; lend! 0; field! 0 1; byte 9; push 1; "
            + "lend 0; field 0 1; long 0; element 1; read; ret");
    }

    private static void vectors() {
        once("DONE gas 19 5 7", "", "long long", "*long",
            "long 5; long 6; long 7; vector 0 3; store 0; lend 0; long 0; element 0; read; lend 0; long 2; element 0; read; ret");
        once("DONE gas 13 6 1", "", "long long", "*long",
            "vector 0 0; store 0; lend! 0; long 5; push 0; lend! 0; long 6; push 0; lend! 0; last 0; lend 0; length 0; ret");
        once("DONE gas 16 2", "", "long", "**long",
            "long 1; vector 0 1; vector 4 1; store 0; lend! 0; long 0; element! 4; long 2; push 0; "
            + "lend 0; long 0; element 4; length 0; ret");
        String read = "long 5; vector 0 1; store 1; lend 1; move 0; element 0; read; ret";
        once("DONE gas 10 5", "long", "long", "*long", read, "long:0");
        once("ERROR 2 gas 7", "long", "long", "*long", read, "long:1");
        once("ERROR 2 gas 7", "long", "long", "*long", read, "long:-1");
        once("ERROR 2 gas 7", "long", "long", "*long", read, "long:9223372036854775808");
        String write = "long 5; vector 0 1; store 1; long 9; lend! 1; move 0; element! 0; write; "
            + "lend 1; long 0; element 0; read; ret";
        once("DONE gas 15 9", "long", "long", "*long", write, "long:0");
        once("ERROR 2 gas 8", "long", "long", "*long", write, "long:1");
        once("ERROR 2 gas 4", "", "long", "*long", "vector 0 0; store 0; lend! 0; last 0; ret");
        String swap = "long 5; long 6; long 7; vector 0 3; store 2; lend! 2; move 0; move 1; swap 0; "
            + "lend 2; long 0; element 0; read; lend 2; long 2; element 0; read; ret";
        once("DONE gas 23 7 5", "long long", "long long", "*long", swap, "long:0", "long:2");
        once("DONE gas 23 5 7", "long long", "long long", "*long", swap, "long:1", "long:1");
        once("DONE gas 23 6 7", "long long", "long long", "*long", swap, "long:1", "long:0");
        once("ERROR 2 gas 12", "long long", "long long", "*long", swap, "long:0", "long:3");
        once("ERROR 2 gas 12", "long long", "long long", "*long", swap, "long:3", "long:0");
        once("ERROR 2 gas 12", "long long", "long long", "*long", swap, "long:-1", "long:0");
    }

    /** 256 elements are the most; a round costs 16. */
    private static void manyElements() {
        String code = "vector 0 0; store 1; long 0; store 2; copy 2; copy 0; below; goifnot 16; lend! 1; copy 2; push 0; "
            + "copy 2; long 1; add; store 2; go 4; lend 1; length 0; ret";
        once("DONE gas 13 0", "long", "long", "*long long", code, "long:0");
        once("DONE gas 4109 256", "long", "long", "*long long", code, "long:256");
        once("ERROR 4 gas 4110", "long", "long", "*long long", code, "long:257");
    }

    private static void digests() throws NoSuchAlgorithmException {
        StringBuilder code = new StringBuilder("vector 1 0; store 1; long 0; store 2; copy 2; copy 0; below; goifnot 17; "
            + "lend! 1; copy 2; tobyte; push 1; copy 2; long 1; add; store 2; go 4; move 1; digest; store 1; ");
        for (int i : new int[] {0, 1, 30, 31}) {
            code.append("lend 1; long ").append(i).append("; element 1; read; ");
        }
        code.append("ret");
        for (int n : new int[] {0, 1, 55, 56, 57, 63, 64, 65, 119, 120, 128, 256}) {
            byte[] row = new byte[n];
            for (int i = 0; i < n; i++) {
                row[i] = (byte) i;
            }
            byte[] d = MessageDigest.getInstance("SHA-256").digest(row);
            String want = "DONE gas " + (66 + 18 * n) + " " + (d[0] & 255) + " " + (d[1] & 255) + " " + (d[30] & 255)
                + " " + (d[31] & 255);
            once(want, "long", "byte byte byte byte", "*byte long", code.toString(), "long:" + n);
        }
        byte[] d = MessageDigest.getInstance("SHA-256").digest(new byte[] {9, 8, -1});
        once("DONE gas 50 " + (d[0] & 255), "", "byte", "*byte",
            "byte 9; byte 8; byte 255; vector 1 3; digest; store 0; lend 0; long 0; element 1; read; ret");
    }

    private static void branches() {
        once("DONE gas 4 2", "truth", "long", "", "move 0; goif 4; long 1; ret; long 2; ret", "truth:1");
        once("DONE gas 4 1", "truth", "long", "", "move 0; goif 4; long 1; ret; long 2; ret", "truth:0");
        once("DONE gas 4 1", "truth", "long", "", "move 0; goifnot 4; long 1; ret; long 2; ret", "truth:1");
        once("DONE gas 4 2", "truth", "long", "", "move 0; goifnot 4; long 1; ret; long 2; ret", "truth:0");
        once("DONE gas 3 3", "", "long", "", "go 1; long 3; ret");
        once("ERROR 5 gas 20000", "", "", "", "go 0");
    }

    private static void calls() {
        Bench bench = new Bench();
        bench.publish(new Assembly(7)
            .function(2, "long long", "long", "", "move 0; move 1; call 1; ret")
            .function(1, "long long", "long", "", "move 0; move 1; sub; ret")
            .function(2, "long", "long", "", "lend! 0; call 3; copy 0; ret")
            .function(1, "&!long", "", "", "long 99; move 0; write; ret")
            .function(3, "", "long truth byte", "", "call 5; ret")
            .function(1, "", "long truth byte", "", "long 4; yes; byte 6; ret"));
        Check.due("arguments in order", bench.run(7, 0, "long:9", "long:2"), "DONE gas 13 7");
        Check.due("by reference", bench.run(7, 2, "long:5"), "DONE gas 14 99");
        Check.due("results in order", bench.run(7, 4), "DONE gas 11 4 1 6");
        // Module 8 has two functions of its own, so the foreign ones are 2 and 3.
        bench.publish(new Assembly(8)
            .foreignFunction(7, 1, 1, "long long", "long").foreignFunction(7, 3, 0, "&!long", "")
            .function(2, "long long", "long", "", "move 0; move 1; call 2; ret")
            .function(2, "long", "long", "", "lend! 0; call 3; copy 0; ret"));
        Check.due("a foreign function", bench.run(8, 0, "long:9", "long:2"), "DONE gas 13 7");
        Check.due("a foreign one by reference", bench.run(8, 1, "long:5"), "DONE gas 14 99");
    }

    private static void frames() {
        Bench bench = new Bench();
        bench.publish(new Assembly(7).function(3, "long", "long", "",
            "copy 0; long 0; same; goif 9; move 0; long 1; sub; call 0; ret; long 77; ret"));
        Check.due("one frame", bench.run(7, 0, "long:0"), "DONE gas 9 77");
        Check.due("32 frames", bench.run(7, 0, "long:31"), "DONE gas 536 77");
        Check.due("33 frames", bench.run(7, 0, "long:32"), "ERROR 4 gas 507");
        Check.due("before its gas", bench.run(1, 507, 7, 0, "long:32"), "ERROR 4 gas 507");
        Check.due("behind its 1", bench.run(1, 506, 7, 0, "long:32"), "ERROR 5 gas 506");
    }

    private static void gas() {
        Bench bench = new Bench();
        bench.publish(new Assembly(7).element("byte").element("long")
            .function(2, "", "", "", "nothing; ".repeat(12) + "ret")
            .function(2, "", "", "", "vector 0 0; digest; pop; ret")
            .function(2, "", "", "", "long 1; long 1; long 1; vector 1 3; pop; ret")
            .function(2, "", "", "*long", "long 1; long 1; vector 1 2; store 0; copy 0; pop; ret"));
        Check.due("all of the limit", bench.run(1, 13, 7, 0), "DONE gas 13");
        Check.due("one more", bench.run(1, 12, 7, 0), "ERROR 5 gas 12");
        Check.due("a digest's cost", bench.run(1, 36, 7, 1), "DONE gas 36");
        Check.due("more than is left", bench.run(1, 20, 7, 1), "ERROR 5 gas 20");
        Check.due("a vector's cost", bench.run(7, 2), "DONE gas 9");
        Check.due("a copy's cost", bench.run(7, 3), "DONE gas 12");
        Check.due("a copy too dear", bench.run(1, 10, 7, 3), "ERROR 5 gas 10");
    }
}
