/**
 * Part 4: what each instruction costs, the LIMIT, and which ERROR is told first. Sentences of the
 * document stand in quotes.
 */
final class GasEdgesTest {
    /** Limits begin at 10, so each code stands behind ten that do nothing. */
    private static final int BEFORE = 10;

    private GasEdgesTest() {
    }

    public static void main(String[] args) {
        one();
        copies();
        comparisons();
        resources();
        vectors();
        digests();
        calls();
        branches();
        firstErrors();
        errorsOfResources();
        aborts();
        limits();
        Check.end();
    }

    /**
     * Structures: 0 all abilities (a long, bytes), 1 store and key (the coin, 4, and a long), 2 all
     * abilities (a truth). Functions: 0 the subject, 1 gives a long, 2 takes and gives a long, 3
     * puts, 4 takes away. Coin functions are 5 to 10.
     */
    private static Assembly module(String takes, String gives, String locals, String code) {
        return new Assembly(7).structure(15, "long *byte").structure(12, "S4 long").structure(15, "truth").structure(0, "long").coin(4)
            .element("long").element("byte").element("*byte")
            .function(6, takes, gives, locals, "nothing; ".repeat(BEFORE) + code)
            .function(0, "", "long", "", "long 7; ret")
            .function(0, "long", "long", "", "move 0; ret")
            .function(6, "", "", "", "yes; pack 2; put 2; ret")
            .function(6, "", "", "", "sender; take 2; pop; ret");
    }

    private static Bench bench(String takes, String gives, String locals, String code) {
        Bench bench = new Bench();
        Check.due("published " + code, bench.publish(module(takes, gives, locals, code)), "DONE");
        return bench;
    }

    /** With all limits up to what it costs: "When all gas would be more than the LIMIT: ERROR 5, and all of the limit is used." */
    private static void costs(int gas, String takes, String locals, String code, String... arguments) {
        Bench bench = bench(takes, "", locals, code);
        int all = BEFORE + gas;
        for (int limit = Math.max(10, all - 14); limit < all; limit++) {
            Check.due(code + " with " + limit, bench.run(1, limit, 7, 0, arguments), "ERROR 5 gas " + limit);
        }
        Check.due(code + " with one more", bench.run(1, all + 1, 7, 0, arguments), "DONE gas " + all);
        bench = bench(takes, "", locals, code);
        Check.due(code, bench.run(1, all, 7, 0, arguments), "DONE gas " + all);
        Check.due("slips", bench.ledger.slips(), 0);
    }

    /** "each instruction costs 1 before all else": those that cost nothing besides. */
    private static void one() {
        costs(1, "", "", "ret");
        costs(2, "", "", "nothing; ret");
        costs(3, "", "", "yes; pop; ret");
        costs(3, "", "", "no; pop; ret");
        costs(3, "", "", "byte 1; pop; ret");
        costs(3, "", "", "long 1; pop; ret");
        costs(3, "", "", "wide 1 1; pop; ret");
        costs(3, "", "", "addr 1; pop; ret");
        costs(3, "", "", "sender; pop; ret");
        costs(3, "long", "", "move 0; pop; ret", "long:1");
        costs(3, "long", "", "move 0; store 0; ret", "long:1");
        costs(3, "long", "", "lend 0; pop; ret", "long:1");
        costs(3, "long", "", "lend! 0; pop; ret", "long:1");
        costs(4, "long", "", "lend! 0; freeze; pop; ret", "long:1");
        costs(4, "long", "", "long 5; lend! 0; write; ret", "long:1");
        for (String op : new String[] {"add", "sub", "mul", "div", "rem", "and", "or", "xor", "below", "notabove", "above", "notbelow"}) {
            costs(5, "", "", "long 5; long 5; " + op + "; pop; ret");
        }
        costs(5, "", "", "wide 5 5; byte 5; up; pop; ret");
        costs(5, "", "", "wide 5 5; byte 5; down; pop; ret");
        costs(4, "", "", "yes; not; pop; ret");
        costs(4, "", "", "long 5; tobyte; pop; ret");
        costs(4, "", "", "long 5; tolong; pop; ret");
        costs(4, "", "", "long 5; towide; pop; ret");
        costs(4, "", "", "yes; pack 2; pop; ret");
        costs(5, "", "", "yes; pack 2; unpack 2; pop; ret");
        costs(6, "", "S2", "yes; pack 2; store 0; lend 0; pop; ret");
        costs(7, "", "S2", "yes; pack 2; store 0; lend 0; field 2 0; pop; ret");
        costs(7, "", "S2", "yes; pack 2; store 0; lend! 0; field! 2 0; pop; ret");
    }

    /** "11 and 18 the SIZE of the copy (1 for a reference)": "SIZE is 1 for a number, truth or address, 1 and its fields' or elements' .." */
    private static void copies() {
        String[] plain = {"truth", "byte", "long", "wide", "addr"};
        for (String type : plain) {
            String argument = type.equals("wide") ? "wide:1:1" : type + ":1";
            costs(4, type, "", "copy 0; pop; ret", argument);
            costs(5, type, "", "lend 0; read; pop; ret", argument);
            costs(6, type, "", "lend 0; read; pop; nothing; ret", argument);
            costs(6, type, "&" + type, "lend 0; store 1; copy 1; pop; ret", argument);
            costs(6, type, "&!" + type, "lend! 0; store 1; copy 1; pop; ret", argument);
        }
        // A vector of nothing has size 1, a structure of a truth 2, one of a long and two bytes 5.
        costs(6, "", "*long", "vector 0 0; store 0; copy 0; pop; ret");
        costs(7, "", "*long", "vector 0 0; store 0; lend 0; read; pop; ret");
        costs(8, "", "S2", "yes; pack 2; store 0; copy 0; pop; ret");
        costs(9, "", "S2", "yes; pack 2; store 0; lend 0; read; pop; ret");
        costs(16, "", "S0", "long 1; byte 1; byte 2; vector 1 2; pack 0; store 0; copy 0; pop; ret");
        // Vectors of vectors: 1 and 2 and 1.
        costs(15, "", "**byte", "byte 1; vector 1 1; vector 1 0; vector 2 2; store 0; copy 0; pop; ret");
        // Of a part that is lent just that part is read.
        costs(12, "", "S0", "long 1; byte 1; vector 1 1; pack 0; store 0; lend 0; field 0 0; read; pop; ret");
    }

    /** "36 and 37 the SIZES of both" */
    private static void comparisons() {
        for (String op : new String[] {"same", "differ"}) {
            costs(7, "", "", "yes; no; " + op + "; pop; ret");
            costs(7, "", "", "wide 1 1; wide 1 1; " + op + "; pop; ret");
            costs(10, "", "", "long 1; vector 0 1; vector 0 0; " + op + "; pop; ret");
            costs(10, "", "", "vector 0 0; long 1; vector 0 1; " + op + "; pop; ret");
            costs(11, "", "", "yes; pack 2; no; pack 2; " + op + "; pop; ret");
            String pair = "long 1; byte 2; vector 1 1; pack 0; ";
            costs(21, "", "", pair + pair + op + "; pop; ret");
        }
    }

    /** The same with a resource of structure 2 that is there before. */
    private static void costsWithOne(int gas, String code) {
        Bench bench = bench("", "", "", code);
        Check.due("put", bench.run(7, 3), "DONE gas 16");
        for (int less = 14; less > 0; less--) {
            int limit = BEFORE + gas - less;
            Check.due(code + " with " + limit, bench.run(1, limit, 7, 0), "ERROR 5 gas " + limit);
        }
        Check.due(code, bench.run(1, BEFORE + gas, 7, 0), "DONE gas " + (BEFORE + gas));
    }

    /** "48 50 51 10, and 47 10 and the SIZE; 49 10" */
    private static void resources() {
        costs(16, "", "", "yes; pack 2; put 2; ret");
        costs(25, "", "", "long 5; call 5; long 6; pack 1; put 1; ret");
        costs(14, "", "", "sender; has 2; pop; ret");
        costsWithOne(14, "sender; has 2; pop; ret");
        costsWithOne(14, "sender; take 2; pop; ret");
        costsWithOne(14, "sender; borrow 2; pop; ret");
        costsWithOne(14, "sender; borrow! 2; pop; ret");
        costsWithOne(29, "sender; take 2; pop; yes; pack 2; put 2; ret");
    }

    /** "52 b"; 53 to 58 cost nothing besides. */
    private static void vectors() {
        costs(3, "", "", "vector 0 0; pop; ret");
        costs(5, "", "", "long 1; vector 0 1; pop; ret");
        costs(131, "", "", "long 1; ".repeat(64) + "vector 0 64; pop; ret");
        String one = "long 1; vector 0 1; store 0; ";
        costs(8, "", "*long", one + "lend 0; length 0; pop; ret");
        costs(9, "", "*long", one + "lend 0; long 0; element 0; pop; ret");
        costs(9, "", "*long", one + "lend! 0; long 0; element! 0; pop; ret");
        costs(8, "", "*long", one + "lend! 0; long 0; push 0; ret");
        costs(8, "", "*long", one + "lend! 0; last 0; pop; ret");
        costs(9, "", "*long", one + "lend! 0; long 0; long 0; swap 0; ret");
    }

    /** "59 32 and the number of bytes" */
    private static void digests() {
        costs(36, "", "", "vector 1 0; digest; pop; ret");
        costs(39, "", "", "byte 1; vector 1 1; digest; pop; ret");
        costs(228, "", "", "byte 1; ".repeat(64) + "vector 1 64; digest; pop; ret");
        // A digest has 32 bytes of its own.
        costs(101, "", "", "vector 1 0; digest; digest; pop; ret");
    }

    /** "23 5"; of the coin's, too: "then costs its 5, and makes no frame" */
    private static void calls() {
        costs(10, "", "", "call 1; pop; ret");
        costs(11, "", "", "long 1; call 2; pop; ret");
        costs(9, "", "", "sender; call 10; pop; ret");
        costs(15, "", "", "sender; long 5; call 5; call 6; ret");
        costs(38, "", "S4", "long 5; call 5; long 2; call 9; call 8; store 0; lend 0; call 7; pop; sender; move 0; call 6; ret");
    }

    private static void branches() {
        costs(2, "", "", "go 11; ret");
        costs(3, "", "", "yes; goif 12; ret");
        costs(3, "", "", "yes; goifnot 12; ret");
        costs(3, "", "", "no; goifnot 13; nothing; ret");
        costs(4, "", "", "no; goif 13; nothing; ret");
    }

    /** An end that is told when its instruction's 1 was paid; with one less it is ERROR 5. */
    private static void ends(String how, int gas, String locals, String code) {
        Bench bench = bench("", "", locals, code);
        int all = BEFORE + gas;
        Check.due(code + " with one less", bench.run(1, all - 1, 7, 0), "ERROR 5 gas " + (all - 1));
        Check.due(code, bench.run(1, all, 7, 0), how + " gas " + all);
        Check.due(code + " with more", bench.run(1, all + 50, 7, 0), how + " gas " + all);
    }

    /** "each instruction costs 1 before all else": so also before what is an ERROR. */
    private static void firstErrors() {
        String end = "; " + "long 0; abort";
        ends("ERROR 1", 3, "", "long 1; long 0; div" + end);
        ends("ERROR 1", 3, "", "byte 255; byte 1; add" + end);
        ends("ERROR 1", 3, "", "byte 1; byte 8; up" + end);
        ends("ERROR 1", 2, "", "long 256; tobyte" + end);
        String none = "vector 0 0; store 0; ";
        ends("ERROR 2", 5, "*long", none + "lend 0; long 0; element 0" + end);
        ends("ERROR 2", 5, "*long", none + "lend! 0; long 0; element! 0" + end);
        ends("ERROR 2", 4, "*long", none + "lend! 0; last 0" + end);
        ends("ERROR 2", 6, "*long", none + "lend! 0; long 0; long 0; swap 0" + end);
        ends("ABORTED 0", 2, "", "long 0; abort");
        ends("ABORTED -1", 2, "", "long -1; abort");
        ends("ABORTED 9", 3, "", "yes; long 9; abort");
    }

    /** "and besides, when it is sure that it can be done": an ERROR 3 does not cost the 10. */
    private static void errorsOfResources() {
        String end = "; " + "long 0; abort";
        ends("ERROR 3", 2, "", "sender; take 2" + end);
        ends("ERROR 3", 2, "", "sender; borrow 2" + end);
        ends("ERROR 3", 2, "", "sender; borrow! 2" + end);
        ends("ABORTED 0", 14, "", "sender; has 2" + end);
        ends("ERROR 3", 18, "", "yes; pack 2; put 2; yes; pack 2; put 2" + end);
        // Once it is taken away, it is there no more, and may be put again.
        ends("ERROR 3", 30, "", "yes; pack 2; put 2; sender; take 2; pop; sender; take 2" + end);
        ends("ABORTED 0", 46, "", "yes; pack 2; put 2; sender; take 2; pop; yes; pack 2; put 2; nothing" + end);
    }

    /** "ABORT 1 when that is less": its call's 5 was paid by then. */
    private static void aborts() {
        ends("ABORTED 1", 7, "", "long 100000000; call 5; long 0; abort");
        ends("ABORTED 2", 14, "", "long 5; call 5; long 6; call 9; long 0; abort");
    }

    /** "a LIMIT of gas (10 .. 20000)": the least and the greatest, used to the last. */
    private static void limits() {
        Bench bench = new Bench();
        bench.publish(new Assembly(7).function(2, "", "", "", "nothing; ".repeat(9) + "ret").function(2, "", "", "", "nothing; ".repeat(10) + "ret"));
        Check.due("10 of 10", bench.run(1, 10, 7, 0), "DONE gas 10");
        Check.due("11 of 10", bench.run(1, 10, 7, 1), "ERROR 5 gas 10");
        Check.due("11 of 11", bench.run(1, 11, 7, 1), "DONE gas 11");
        // A round costs 10, all else 20.
        bench = bench("long", "", "", "nothing; nothing; nothing; nothing; copy 0; long 0; above; goifnot 23; move 0; long 1; sub; store 0; go 14; ret");
        Check.due("no round", bench.run(1, 20, 7, 0, "long:0"), "DONE gas 20");
        Check.due("20000 of 20000", bench.run(1, 20000, 7, 0, "long:1998"), "DONE gas 20000");
        Check.due("20000 of 19999", bench.run(1, 19999, 7, 0, "long:1998"), "ERROR 5 gas 19999");
        Check.due("more than 20000", bench.run(1, 20000, 7, 0, "long:1999"), "ERROR 5 gas 20000");
        Check.due("far more than 20000", bench.run(1, 20000, 7, 0, "long:-1"), "ERROR 5 gas 20000");
    }
}
