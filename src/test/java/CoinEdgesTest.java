/** Part 5, the coin, sentence by sentence. Sentences of the document stand in quotes. */
final class CoinEdgesTest {
    private static final long ALL = (1L << 62) - 1;

    private CoinEdgesTest() {
    }

    public static void main(String[] args) {
        module();
        noOtherCode();
        withdrawing();
        limitIsNotThere();
        paying();
        payingAll();
        reading();
        joining();
        splitting();
        balances();
        balancesWithin();
        withinVectors();
        Check.end();
    }

    /**
     * Functions: 0 pays (from the sender to an address so much), 1 tells a coin of so much, 2 joins
     * two, 3 splits one, 4 tells a balance, 5 tells the sender's balance before, with a coin in
     * hand, and when it came back, 6 keeps coins in a vault, 7 withdraws twice, 8 takes
     * the last coin out of the vault. Coins are S1.
     */
    private static Bench bench() {
        Bench bench = new Bench();
        Check.due("module", bench.publish(new Assembly(7).structure(12, "*S1").coin(1).element("S1")
            .function(2, "addr long", "", "", "move 0; move 1; call 9; call 10; ret")
            .function(2, "long", "long", "S1", "move 0; call 9; store 1; lend 1; call 11; sender; move 1; call 10; ret")
            .function(2, "long long", "long", "S1", "move 0; call 9; move 1; call 9; call 12; store 2; lend 2; call 11; sender; move 2; call 10; ret")
            .function(2, "long long", "long long", "S1 S1", "move 0; call 9; move 1; call 13; store 3; store 2; lend 2; call 11; lend 3; call 11; "
                + "sender; move 2; call 10; sender; move 3; call 10; ret")
            .function(2, "addr", "long", "", "move 0; call 14; ret")
            .function(2, "long", "long long long", "S1", "sender; call 14; move 0; call 9; store 1; sender; call 14; sender; move 1; call 10; "
                + "sender; call 14; ret")
            .function(6, "long long", "", "", "move 0; call 9; move 1; call 9; vector 0 2; pack 0; put 0; ret")
            .function(2, "long long", "", "", "sender; move 0; call 9; sender; move 1; call 9; call 10; call 10; ret")
            .function(6, "", "", "", "sender; sender; borrow! 0; field! 0 0; last 0; call 10; ret")), "DONE");
        return bench;
    }

    private static String brief(String told) {
        return told.replaceAll(" gas \\d+", "");
    }

    private static void whole(Bench bench) {
        ResourceLedger x = bench.ledger;
        Check.due("all coins are somewhere", x.coins(2) + x.coins(3), x.coins(0) - x.coins(1));
        Check.due("slips", x.slips(), 0);
    }

    /** "Module 0 is there from the beginning. Its structure 0, COIN, has abilities 4 and a field (a long)" */
    private static void module() {
        Bench bench = new Bench();
        for (int f : new int[] {0, 1, 2, 3, 4, 5, 6, 7, 63}) {
            Check.due("function " + f + " of module 0", bench.run(0, f), f < 6 ? "REFUSED 6 gas 0" : "REFUSED 5 gas 0");
        }
        for (String op : new String[] {"copy 0; " + "long 0; abort", "lend 0; read; long 0; abort"}) {
            Check.due("no copy: " + op, new Bench().publish(new Assembly(7).foreignStructure(0, 0, 4).function(0, "S0", "", "", op))
                .startsWith("FAULTY 34"), true);
        }
        for (String op : new String[] {"ret", "move 0; pop; ret", "move 0; store 1; ret"}) {
            Check.due("no drop: " + op, new Bench().publish(new Assembly(7).foreignStructure(0, 0, 4).function(0, "S0", "", "S0", op))
                .startsWith("FAULTY"), true);
        }
        Check.due("store", new Bench().publish(new Assembly(7).structure(12, "S1").foreignStructure(0, 0, 4)), "DONE");
    }

    /** "no code but its own makes or ends one": it cannot be packed, unpacked, nor its field be borrowed, nor put. */
    private static void noOtherCode() {
        for (String op : new String[] {"pack 0", "unpack 0", "field 0 0", "field! 0 0", "put 0", "take 0", "has 0", "borrow 0", "borrow! 0"}) {
            Assembly module = new Assembly(7).foreignStructure(0, 0, 4).function(4, "S0", "", "", op);
            Check.due(op, new Bench().publish(module), "FAULTY 8 24");
        }
    }

    /** "0 takes a long, gives a COIN of it, from the sender's BALANCE: ABORT 1 when that is less." */
    private static void withdrawing() {
        Bench bench = bench();
        bench.ledger.mint(3, 1000);
        Check.due("none", brief(bench.run(3, 100, 7, 1, "long:0")), "DONE 0");
        long left = bench.ledger.account(3, 0) - 100;
        Check.due("all that is left", brief(bench.run(3, 100, 7, 1, "long:" + left)), "DONE " + left);
        left = bench.ledger.account(3, 0) - 100;
        Check.due("one more", brief(bench.run(3, 100, 7, 1, "long:" + (left + 1))), "ABORTED 1");
        for (String far : new String[] {"4611686018427387904", "9223372036854775807", "9223372036854775808", "18446744073709551615"}) {
            Check.due("far more", brief(bench.run(3, 100, 7, 1, "long:" + far)), "ABORTED 1");
        }
        // What was withdrawn before is there no more.
        left = bench.ledger.account(3, 0) - 100;
        Check.due("twice, in all what is left", brief(bench.run(3, 100, 7, 7, "long:" + (left - 10), "long:10")), "DONE");
        left = bench.ledger.account(3, 0) - 100;
        Check.due("twice, one more", brief(bench.run(3, 100, 7, 7, "long:" + (left - 10), "long:11")), "ABORTED 1");
        whole(bench);
    }

    /** The limit was taken from the balance before: with the whole balance as limit nothing is left to withdraw. */
    private static void limitIsNotThere() {
        Bench bench = bench();
        bench.ledger.mint(3, 100);
        Check.due("nothing of nothing", brief(bench.run(3, 100, 7, 1, "long:0")), "DONE 0");
        int limit = (int) bench.ledger.account(3, 0);
        Check.due("one of nothing", brief(bench.run(3, limit, 7, 1, "long:1")), "ABORTED 1");
        whole(bench);
    }

    /** "1 takes an address and a COIN: its long comes to that ACCOUNT's balance (which comes to be, if it was not)." */
    private static void paying() {
        Bench bench = bench();
        ResourceLedger x = bench.ledger;
        for (long address : new long[] {50, 0, -1, Long.MIN_VALUE}) {
            int before = x.places(3);
            Check.due("to a new one", brief(bench.run(7, 0, "addr:" + address, "long:7")), "DONE");
            Check.due("it is there", x.places(3), before + 1);
            Check.due("its balance and sequence", x.account(address, 0) + " " + x.account(address, 1), "7 0");
            Check.due("again", brief(bench.run(7, 0, "addr:" + address, "long:8")), "DONE");
            Check.due("its balance", x.account(address, 0), 15);
            Check.due("no other one", x.places(3), before + 1);
        }
        Check.due("nothing, to a new one", brief(bench.run(7, 0, "addr:60", "long:0")), "DONE");
        Check.due("it is there, too", x.places(3), 7);
        long before = x.account(1, 0);
        Check.due("to oneself", bench.run(7, 0, "addr:1", "long:1000"), "DONE gas 15");
        Check.due("less by gas alone", x.account(1, 0), before - 15);
        // One that came to be so can send: its sequence is 0.
        Check.due("too poor", bench.run(50, 16, 7, 4, "addr:50"), "REFUSED 3 gas 0");
        Check.due("rich enough", bench.run(50, 15, 7, 4, "addr:50"), "DONE gas 8 0");
        whole(bench);
    }

    /** "All balances and coins together stay below 2^62." */
    private static void payingAll() {
        Bench bench = bench();
        ResourceLedger x = bench.ledger;
        Check.due("all that there can be", x.mint(1, ALL - x.coins(0) + x.coins(1)), true);
        long left = x.account(1, 0) - 100;
        Check.due("all to another", brief(bench.run(1, 100, 7, 0, "addr:9", "long:" + left)), "DONE");
        Check.due("it is there", x.account(9, 0), left);
        long rest = x.account(1, 0);
        Check.due("and back", brief(bench.run(9, 100, 7, 0, "addr:1", "long:" + (left - 100))), "DONE");
        Check.due("it is back", x.account(1, 0), rest + left - 100);
        Check.due("no more than 2^62", x.coins(2) + x.coins(3) < 1L << 62, true);
        whole(bench);
    }

    /** "2 takes a reference to a COIN, gives its long." */
    private static void reading() {
        Bench bench = bench();
        for (String n : new String[] {"0", "1", "255", "256", "65535", "50000000"}) {
            Check.due("a coin of " + n, brief(bench.run(7, 1, "long:" + n)), "DONE " + n);
        }
        whole(bench);
    }

    /** "3 takes two COINS, gives one of both." */
    private static void joining() {
        Bench bench = bench();
        Check.due("two of nothing", brief(bench.run(7, 2, "long:0", "long:0")), "DONE 0");
        Check.due("one of nothing", brief(bench.run(7, 2, "long:5", "long:0")), "DONE 5");
        Check.due("two", brief(bench.run(7, 2, "long:40000000", "long:2")), "DONE 40000002");
        whole(bench);
    }

    /** "4 takes a COIN and a long, gives two: what is left, and one of the long: ABORT 2 when it has less." */
    private static void splitting() {
        Bench bench = bench();
        Check.due("nothing of it", brief(bench.run(7, 3, "long:10", "long:0")), "DONE 10 0");
        Check.due("a part", brief(bench.run(7, 3, "long:10", "long:3")), "DONE 7 3");
        Check.due("all of it", brief(bench.run(7, 3, "long:10", "long:10")), "DONE 0 10");
        Check.due("one more", brief(bench.run(7, 3, "long:10", "long:11")), "ABORTED 2");
        Check.due("nothing of nothing", brief(bench.run(7, 3, "long:0", "long:0")), "DONE 0 0");
        Check.due("one of nothing", brief(bench.run(7, 3, "long:0", "long:1")), "ABORTED 2");
        for (String far : new String[] {"9223372036854775807", "9223372036854775808", "18446744073709551615"}) {
            Check.due("far more", brief(bench.run(7, 3, "long:10", "long:" + far)), "ABORTED 2");
        }
        whole(bench);
    }

    /** "5 takes an address, gives its balance (0 without an account)." */
    private static void balances() {
        Bench bench = bench();
        bench.ledger.mint(3, 0);
        bench.ledger.mint(4, 77);
        Check.due("of one with nothing", brief(bench.run(7, 4, "addr:3")), "DONE 0");
        Check.due("of one with something", brief(bench.run(7, 4, "addr:4")), "DONE 77");
        Check.due("of none", brief(bench.run(7, 4, "addr:5")), "DONE 0");
        Check.due("none comes to be", bench.ledger.places(3), 4);
        Check.due("one's own, less the limit", bench.run(2, 100, 7, 4, "addr:2"), "DONE gas 8 99999900");
        whole(bench);
    }

    /** Within one call each sees what was done before it. */
    private static void balancesWithin() {
        Bench bench = bench();
        Check.due("before, with it in hand, and back", brief(bench.run(2, 1000, 7, 5, "long:5000")), "DONE 99999000 99994000 99999000");
        whole(bench);
    }

    /** "all that is in coins within resources": also within vectors; taken away again they are in hand. */
    private static void withinVectors() {
        Bench bench = bench();
        Check.due("two coins", brief(bench.run(7, 6, "long:5", "long:6")), "DONE");
        Check.due("in resources", bench.ledger.coins(3), 11);
        Check.due("its bytes", bench.ledger.resource(1, 7, 0), 18);
        Check.due("the second one's last byte", bench.ledger.byteOf(17), 6);
        Check.due("a second vault", brief(bench.run(7, 6, "long:5", "long:6")), "ERROR 3");
        Check.due("in resources still", bench.ledger.coins(3), 11);
        long before = bench.ledger.account(1, 0);
        Check.due("the last one", bench.run(7, 8), "DONE gas 22");
        Check.due("it came back", bench.ledger.account(1, 0), before + 6 - 22);
        Check.due("in resources then", bench.ledger.coins(3), 5);
        Check.due("the first one", brief(bench.run(7, 8)), "DONE");
        Check.due("none in resources", bench.ledger.coins(3), 0);
        Check.due("none is there", brief(bench.run(7, 8)), "ERROR 2");
        whole(bench);
    }
}
