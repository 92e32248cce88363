import java.util.Arrays;

/**
 * Parts 6 and 7: how many modules and places there are, what is REFUSED, FAULTY, ABORTED and in
 * ERROR, in which order, and what is paid. Sentences of the document stand in quotes.
 */
final class BlockEdgesTest {
    private static final String[] PLAIN = {"truth", "byte", "long", "wide", "addr"};

    private BlockEdgesTest() {
    }

    public static void main(String[] args) {
        refusedInOrder();
        refusedPublications();
        sequences();
        balances();
        entries();
        argumentTypes();
        argumentCounts();
        results();
        publicationGas();
        publicationOrder();
        eightModules();
        lastPlaceForModules();
        lastPlaceForCalls();
        whatIsPaid();
        undone();
        oneAfterTheOther();
        fullBlocks();
        Check.end();
    }

    private static String brief(String told) {
        return told.replaceAll(" gas \\d+", "");
    }

    /**
     * Functions of module 7: 0 entry, takes a long; 1 not entry, takes a long and gives a vector; 2
     * the same, but entry; 3 pays so much to 50 and then is DONE, ABORTED with 77 or in ERROR 1, by
     * a byte; 4 puts a resource of structure 0, 5 takes it away, 6 makes one of structure 1 of it, 7
     * takes it away and pays to an address. Coins are S2.
     */
    private static Bench bench() {
        Bench bench = new Bench();
        Check.due("module", bench.publish(new Assembly(7).structure(15, "long").structure(15, "long").coin(2).element("long")
            .function(2, "long", "", "", "ret")
            .function(1, "long", "*long", "", "vector 0 0; ret")
            .function(2, "long", "*long", "", "vector 0 0; ret")
            .function(2, "byte long", "long", "", "addr 50; move 1; call 8; call 9; copy 0; byte 0; same; goifnot 10; long 5; ret; "
                + "copy 0; byte 1; same; goifnot 16; long 77; abort; long 1; long 0; div; ret")
            .function(6, "", "", "", "long 3; pack 0; put 0; ret")
            .function(6, "", "", "", "sender; take 0; pop; ret")
            .function(6, "", "", "", "sender; take 0; unpack 0; pack 1; put 1; ret")
            .function(6, "addr addr", "", "", "sender; take 0; pop; move 0; long 0; call 8; call 9; move 1; long 0; call 8; call 9; ret")), "DONE");
        return bench;
    }

    /** "REFUSED (outcome 3), with nothing changed and no gas used, when ..": each, though all behind it are so, too. */
    private static void refusedInOrder() {
        Bench bench = bench();
        ResourceLedger x = bench.ledger;
        x.mint(3, 50);
        String before = bench.state();
        x.begin();
        x.call(9, 5, 20000, 99, 63);
        x.call(3, 5, 20000, 99, 63);
        x.call(3, 0, 51, 99, 63);
        x.call(3, 0, 50, 99, 63);
        x.call(3, 0, 50, 7, 8);
        x.call(3, 0, 50, 7, 1);
        x.call(3, 0, 50, 7, 2);
        x.call(3, 0, 50, 7, 2);
        x.argument(3, 0, 1);
        Check.due("none is done", x.execute(), 0);
        for (int t = 0; t < 8; t++) {
            Check.due("REFUSED with " + (t + 1), bench.tell(t), "REFUSED " + (t + 1) + " gas 0");
            Check.due("no results", x.told(t, 2), 0);
            Check.due("no place", x.told(t, 3), 0);
        }
        Check.due("nothing has changed", bench.state(), before);
        Check.due("nor the sequence", x.account(3, 1), 0);
        x.call(3, 0, 50, 7, 0);
        x.argument(3, 0, 1);
        Check.due("what is not REFUSED", x.execute(), 1);
        Check.due("DONE", bench.tell(8), "DONE gas 1");
        Check.due("its sequence", x.account(3, 1), 1);
    }

    /** A PUBLICATION is REFUSED with 1, 2, 3 alone, and before all that is wrong with its tape. */
    private static void refusedPublications() {
        Bench bench = bench();
        ResourceLedger x = bench.ledger;
        x.mint(3, 50);
        String before = bench.state();
        x.begin();
        long[] senders = {9, 3, 3};
        long[] sequences = {5, 5, 0};
        for (int t = 0; t < 3; t++) {
            bench.tape(Assembly.bytes(1, 2, 3));
            x.publish(senders[t], sequences[t], 51);
        }
        x.execute();
        for (int t = 0; t < 3; t++) {
            Check.due("REFUSED with " + (t + 1), bench.tell(t), "REFUSED " + (t + 1) + " gas 0");
        }
        Check.due("nothing has changed", bench.state(), before);
        bench.tape(Assembly.bytes(1, 2, 3));
        x.publish(3, 0, 50);
        x.execute();
        Check.due("what is not REFUSED", bench.tell(3), "FAULTY 1 gas 11");
    }

    /** "its sequence is another one (2)"; "the sequence one more": whatever comes of it. */
    private static void sequences() {
        Bench bench = bench();
        ResourceLedger x = bench.ledger;
        x.begin();
        long[] sequences = {0, 2, -1, Long.MIN_VALUE, Long.MAX_VALUE, 1L << 32 | 1, 1, 1, 2, 3};
        for (long s : sequences) {
            x.call(1, s, 100, 7, 4);
        }
        Check.due("one is done", x.execute(), 1);
        for (int t = 0; t < 6; t++) {
            Check.due("another sequence " + sequences[t], bench.tell(t), "REFUSED 2 gas 0");
        }
        Check.due("just this one", bench.tell(6), "DONE gas 16");
        Check.due("not twice", bench.tell(7), "REFUSED 2 gas 0");
        Check.due("the next one, in ERROR", bench.tell(8), "ERROR 3 gas 3");
        Check.due("the one behind it", bench.tell(9), "ERROR 3 gas 3");
        Check.due("four in all", x.account(1, 1), 4);
    }

    /** "its balance is below the limit (3)": just so much is enough. */
    private static void balances() {
        Bench bench = bench();
        ResourceLedger x = bench.ledger;
        x.mint(3, 9);
        Check.due("9 with limit 10", bench.run(3, 10, 7, 0, "long:1"), "REFUSED 3 gas 0");
        x.mint(3, 1);
        Check.due("10 with limit 11", bench.run(3, 11, 7, 0, "long:1"), "REFUSED 3 gas 0");
        Check.due("10 with limit 10", bench.run(3, 10, 7, 0, "long:1"), "DONE gas 1");
        Check.due("what is left", x.account(3, 0), 9);
        x.mint(4, 20000);
        Check.due("20000 with limit 20000", bench.run(4, 20000, 7, 0, "long:1"), "DONE gas 1");
        Check.due("19999 with limit 20000", bench.run(4, 20000, 7, 0, "long:1"), "REFUSED 3 gas 0");
        x.mint(5, 0);
        Check.due("nothing with limit 10", bench.run(5, 10, 7, 0, "long:1"), "REFUSED 3 gas 0");
    }

    /** "no such module (4), no such function of its own (5), it is not entry (6; so are all of module 0)" */
    private static void entries() {
        Bench bench = new Bench();
        Assembly module = new Assembly(65535).foreignFunction(0, 5, 1, "addr", "long");
        for (int flags = 0; flags < 8; flags++) {
            module.function(flags, "", "", "", "ret");
        }
        Check.due("module 65535", bench.publish(module), "DONE");
        for (int flags = 0; flags < 8; flags++) {
            Check.due("flags " + flags, bench.run(65535, flags), (flags & 2) != 0 ? "DONE gas 1" : "REFUSED 6 gas 0");
        }
        Check.due("a foreign one is not its own", bench.run(65535, 8, "addr:1"), "REFUSED 5 gas 0");
        Check.due("no function 63", bench.run(65535, 63), "REFUSED 5 gas 0");
        Check.due("no module 65534", bench.run(65534, 2), "REFUSED 4 gas 0");
        Check.due("no module 255", bench.run(255, 2), "REFUSED 4 gas 0");
        Bench most = new Bench();
        Assembly all = new Assembly(7);
        for (int f = 0; f < 63; f++) {
            all.function(0, "", "", "", "ret");
        }
        Check.due("64 functions", most.publish(all.function(2, "", "long", "", "long 5; ret")), "DONE");
        Check.due("function 63", most.run(7, 63), "DONE gas 2 5");
        Check.due("function 62", most.run(7, 62), "REFUSED 6 gas 0");
    }

    /** "it does not take just the arguments' types (7)": each type for each. */
    private static void argumentTypes() {
        Bench bench = new Bench();
        Assembly module = new Assembly(7).structure(15, "long");
        String[] taken = {"truth", "byte", "long", "wide", "addr", "S0", "*byte", "&long", "&!long"};
        for (String type : taken) {
            module.function(2, type, "", "", "ret");
        }
        Check.due("module", bench.publish(module), "DONE");
        for (int f = 0; f < taken.length; f++) {
            for (String type : PLAIN) {
                String argument = type.equals("wide") ? "wide:0:1" : type + ":1";
                Check.due(type + " for " + taken[f], bench.run(7, f, argument), type.equals(taken[f]) ? "DONE gas 1" : "REFUSED 7 gas 0");
            }
        }
    }

    /** "just": neither fewer nor more, and in their order. */
    private static void argumentCounts() {
        Bench bench = new Bench();
        bench.publish(new Assembly(7).function(2, "", "", "", "ret").function(2, "long byte", "", "", "ret")
            .function(2, "long long long long long long long byte", "", "", "ret"));
        Check.due("none for none", bench.run(7, 0), "DONE gas 1");
        Check.due("one for none", bench.run(7, 0, "long:1"), "REFUSED 7 gas 0");
        Check.due("none for two", bench.run(7, 1), "REFUSED 7 gas 0");
        Check.due("one for two", bench.run(7, 1, "long:1"), "REFUSED 7 gas 0");
        Check.due("two for two", bench.run(7, 1, "long:1", "byte:1"), "DONE gas 1");
        Check.due("in another order", bench.run(7, 1, "byte:1", "long:1"), "REFUSED 7 gas 0");
        Check.due("three for two", bench.run(7, 1, "long:1", "byte:1", "byte:1"), "REFUSED 7 gas 0");
        String[] eight = new String[8];
        Arrays.fill(eight, "long:1");
        Check.due("another one as the eighth", bench.run(7, 2, eight), "REFUSED 7 gas 0");
        Check.due("seven of eight", bench.run(7, 2, Arrays.copyOf(eight, 7)), "REFUSED 7 gas 0");
        eight[7] = "byte:1";
        Check.due("eight", bench.run(7, 2, eight), "DONE gas 1");
    }

    /** "or gives anything but truths, bytes, longs, wides, addresses (8)" */
    private static void results() {
        Bench bench = new Bench();
        bench.publish(new Assembly(7).structure(15, "long").element("long")
            .function(2, "", "truth byte long wide addr", "", "yes; byte 1; long 1; wide 1 1; sender; ret")
            .function(2, "", "*long", "", "vector 0 0; ret")
            .function(2, "", "S0", "", "long 1; pack 0; ret")
            .function(2, "", "&long", "", "long 0; abort")
            .function(2, "", "&!long", "", "long 0; abort")
            .function(2, "", "*long long", "", "vector 0 0; long 1; ret")
            .function(2, "", "long long long long long long long *long", "", "long 1; ".repeat(7) + "vector 0 0; ret")
            .function(2, "", "long long long long long long long long", "", "long 1; ".repeat(8) + "ret")
            .function(2, "long", "*long", "", "vector 0 0; ret"));
        Check.due("all that it may give", brief(bench.run(7, 0)), "DONE 1 1 1 1:1 1");
        for (int f = 1; f <= 6; f++) {
            Check.due("gives another one " + f, bench.run(7, f), "REFUSED 8 gas 0");
        }
        Check.due("eight", brief(bench.run(7, 7)), "DONE 1 1 1 1 1 1 1 1");
        Check.due("7 before 8", bench.run(7, 8), "REFUSED 7 gas 0");
    }

    /** "A PUBLICATION uses 10 and a sixteenth of its bytes (rounded up), whatever comes of it" */
    private static void publicationGas() {
        int[] lengths = {0, 1, 15, 16, 17, 31, 32, 33, 2032, 2033, 2047, 2048};
        int[] gas = {10, 11, 11, 11, 12, 12, 12, 13, 137, 138, 138, 138};
        for (int i = 0; i < lengths.length; i++) {
            Bench bench = new Bench();
            String how = lengths[i] == 0 ? "FAULTY 2" : "FAULTY 1";
            bench.tape(new byte[lengths[i]]);
            bench.ledger.publish(1, 0, gas[i]);
            bench.ledger.execute();
            Check.due(lengths[i] + " bytes", bench.tell(0), how + " gas " + gas[i]);
            if (gas[i] > 10) {
                Bench less = new Bench();
                less.tape(new byte[lengths[i]]);
                less.ledger.publish(1, 0, gas[i] - 1);
                less.ledger.execute();
                Check.due(lengths[i] + " bytes with one less", less.tell(0), "ERROR 5 gas " + (gas[i] - 1));
                Check.due("all of the limit is used", less.ledger.coins(1), gas[i] - 1);
            }
        }
        Bench bench = new Bench();
        bench.tape(new Assembly(9).toBytes());
        bench.ledger.publish(1, 0, 10);
        bench.tape(new Assembly(9).toBytes());
        bench.ledger.publish(1, 1, 11);
        Check.due("one of two", bench.ledger.execute(), 1);
        Check.due("with one less", bench.tell(0), "ERROR 5 gas 10");
        Check.due("just so", bench.tell(1), "DONE gas 11");
        Check.due("without RESULTS", bench.ledger.told(1, 2), 0);
    }

    private static String publish(Bench bench, byte[] bytes, int limit) {
        bench.tape(bytes);
        bench.ledger.begin();
        bench.ledger.publish(1, bench.ledger.account(1, 1), limit);
        bench.ledger.execute();
        return bench.tell(0);
    }

    /** "ERROR 5 .. before all else; then ERROR 4 when eight are there; then it is FAULTY ..; then ERROR 4 when no PLACE is free; else it is DONE" */
    private static void publicationOrder() {
        Bench bench = new Bench();
        for (int i = 1; i <= 8; i++) {
            Check.due("module " + i, publish(bench, new Assembly(i).toBytes(), 11), "DONE gas 11");
        }
        Check.due("5 before eight", publish(bench, new Assembly(9).toBytes(), 10), "ERROR 5 gas 10");
        Check.due("eight are there", publish(bench, new Assembly(9).toBytes(), 11), "ERROR 4 gas 11");
        Check.due("eight before faults", publish(bench, new byte[] {1}, 11), "ERROR 4 gas 11");
        Check.due("eight before fault 21", publish(bench, new Assembly(8).toBytes(), 11), "ERROR 4 gas 11");
        Check.due("5 before faults", publish(bench, new byte[] {1}, 10), "ERROR 5 gas 10");
        Bench full = new Bench();
        for (int i = 2; i < 256; i++) {
            full.ledger.mint(1000 + i, 0);
        }
        Check.due("faults before places", publish(full, new byte[] {1}, 11), "FAULTY 1 gas 11");
        Check.due("the last fault before places", publish(full, new Assembly(9).function(0, "", "", "", "pop").toBytes(), 20), "FAULTY 31 gas 12");
        Check.due("no PLACE", publish(full, new Assembly(9).toBytes(), 11), "ERROR 4 gas 11");
        Check.due("5 before places", publish(full, new Assembly(9).toBytes(), 10), "ERROR 5 gas 10");
        Check.due("no module came", full.ledger.places(1), 0);
    }

    /** "MODULES, by NUMBER, at most 8 besides module 0." */
    private static void eightModules() {
        Bench bench = new Bench();
        for (int i = 1; i <= 8; i++) {
            Check.due("module", bench.publish(new Assembly(i * 8191).function(2, "", "long", "", "long " + i + "; ret")), "DONE");
        }
        Check.due("a ninth", bench.publish(new Assembly(5)), "ERROR 4");
        Check.due("eight", bench.ledger.places(1), 8);
        Check.due("the ninth is not there", bench.run(5, 0), "REFUSED 4 gas 0");
        for (int i = 1; i <= 8; i++) {
            Check.due("module " + i * 8191, bench.run(i * 8191, 0), "DONE gas 2 " + i);
        }
    }

    /** "All together (without module 0) are at most 256 PLACES." */
    private static void lastPlaceForModules() {
        Bench bench = new Bench();
        for (int i = 2; i < 255; i++) {
            bench.ledger.mint(1000 + i, 0);
        }
        Check.due("255 places", bench.ledger.places(0), 255);
        Check.due("the 256th", bench.publish(new Assembly(7)), "DONE");
        Check.due("256 places", bench.ledger.places(0), 256);
        Check.due("a 257th", bench.publish(new Assembly(8)), "ERROR 4");
        Check.due("256 places still", bench.ledger.places(0), 256);
        Check.due("a new account", bench.ledger.mint(5, 0), false);
    }

    /** "more than 256 PLACES, are ERROR 4, too, at its end" */
    private static void lastPlaceForCalls() {
        Bench bench = bench();
        ResourceLedger x = bench.ledger;
        for (int i = 3; i < 254; i++) {
            x.mint(1000 + i, 0);
        }
        Check.due("254 places", x.places(0), 254);
        Check.due("a resource", bench.run(7, 4), "DONE gas 16");
        Check.due("the 256th, an account", bench.run(7, 3, "byte:0", "long:9"), "DONE gas 23 5");
        Check.due("256 places", x.places(0), 256);
        Check.due("a 257th, a resource", bench.run(2, 100, 7, 4), "ERROR 4 gas 16");
        Check.due("an account that is there", bench.run(7, 3, "byte:0", "long:9"), "DONE gas 23 5");
        // One goes, one comes: at the end there are no more than before.
        Check.due("another resource for it", brief(bench.run(7, 6)), "DONE");
        Check.due("256 places still", x.places(0) + " " + x.places(2), "256 1");
        // One goes, two come.
        Bench other = bench();
        for (int i = 3; i < 255; i++) {
            other.ledger.mint(1000 + i, 0);
        }
        Check.due("the 256th, a resource", brief(other.run(7, 4)), "DONE");
        // What ends before its end is not in this ERROR.
        Check.due("at its end", other.run(7, 3, "byte:0", "long:9"), "ERROR 4 gas 23");
        Check.due("ABORTED before", other.run(7, 3, "byte:1", "long:9"), "ABORTED 77 gas 30");
        Check.due("in ERROR 1 before", other.run(7, 3, "byte:2", "long:9"), "ERROR 1 gas 31");
        Check.due("one goes, two come", brief(other.run(7, 7, "addr:70", "addr:71")), "ERROR 4");
        Check.due("none of them came", other.ledger.places(3) + " " + other.ledger.places(2), "254 1");
        Check.due("one goes, one comes", brief(other.run(7, 7, "addr:70", "addr:70")), "DONE");
        Check.due("256 places again", other.ledger.places(0) + " " + other.ledger.places(2), "256 0");
    }

    /** "the balance is less by the limit, the sequence one more; at the end what is left of the limit comes back, what was used is BURNED" */
    private static void whatIsPaid() {
        Bench bench = bench();
        ResourceLedger x = bench.ledger;
        String[] how = {"DONE gas 23 5", "ABORTED 77 gas 30", "ERROR 1 gas 31"};
        int[] gas = {23, 30, 31};
        for (int k = 0; k < 3; k++) {
            long balance = x.account(1, 0);
            long burned = x.coins(1);
            long sequence = x.account(1, 1);
            Check.due("it is", bench.run(1, 500, 7, 3, "byte:" + k, "long:1000"), how[k]);
            Check.due("less by gas and what was paid", x.account(1, 0), balance - gas[k] - (k == 0 ? 1000 : 0));
            Check.due("burned", x.coins(1), burned + gas[k]);
            Check.due("sequence", x.account(1, 1), sequence + 1);
        }
        long balance = x.account(1, 0);
        Check.due("out of gas", bench.run(1, 22, 7, 3, "byte:0", "long:1000"), "ERROR 5 gas 22");
        Check.due("less by the limit", x.account(1, 0), balance - 22);
        Check.due("paid once in all", x.account(50, 0), 1000);
        Check.due("all coins", x.coins(2), x.coins(0) - x.coins(1));
    }

    /** "all that it did is as if it had not been, but for gas, balance and sequence" */
    private static void undone() {
        for (int k = 1; k < 3; k++) {
            Bench bench = bench();
            ResourceLedger x = bench.ledger;
            bench.run(1, 500, 7, 3, "byte:" + k, "long:1000");
            Check.due("no account came", x.places(3), 2);
            Check.due("no balance of it", x.account(50, 0), 0);
            Check.due("no results", x.told(0, 2), 0);
            bench.run(1, 500, 7, 3, "byte:0", "long:7");
            bench.run(1, 500, 7, 3, "byte:" + k, "long:1000");
            Check.due("its balance is as it was", x.account(50, 0), 7);
        }
        Bench bench = new Bench();
        bench.publish(new Assembly(7).structure(15, "long")
            .function(6, "", "", "", "long 3; pack 0; put 0; ret")
            .function(6, "", "", "", "sender; take 0; pop; long 1; abort")
            .function(6, "", "", "", "long 9; sender; borrow! 0; field! 0 0; write; long 1; abort")
            .function(6, "", "", "", "sender; take 0; pop; long 8; pack 0; put 0; long 1; long 0; div; pop; ret")
            .function(6, "", "", "", "long 9; sender; borrow! 0; field! 0 0; write; go 5"));
        bench.run(7, 0);
        byte[] before = bench.stored(1, 7, 0);
        for (int f = 1; f < 5; f++) {
            Check.due("not DONE", bench.run(1, 1000, 7, f).startsWith("DONE"), false);
            Check.due("it is as it was", Arrays.equals(bench.stored(1, 7, 0), before), true);
            Check.due("one resource", bench.ledger.places(2), 1);
        }
    }

    /** "THE BLOCK IS DONE as if its transactions were done one after the other" */
    private static void oneAfterTheOther() {
        Bench bench = new Bench();
        ResourceLedger x = bench.ledger;
        byte[] module = new Assembly(7).structure(15, "long").coin(1)
            .function(6, "", "", "", "long 3; pack 0; put 0; ret")
            .function(6, "", "", "", "sender; take 0; pop; ret")
            .function(2, "addr long", "", "", "move 0; move 1; call 3; call 4; ret").toBytes();
        x.call(1, 0, 100, 7, 0);
        bench.tape(module);
        x.publish(1, 0, 100);
        x.call(1, 1, 100, 7, 1);
        x.call(1, 2, 100, 7, 0);
        x.call(1, 3, 100, 7, 0);
        x.call(1, 4, 100, 7, 1);
        x.call(3, 0, 100, 7, 0);
        x.call(1, 5, 100, 7, 2);
        x.argument(5, 0, 3);
        x.argument(3, 0, 200);
        x.call(3, 0, 100, 7, 0);
        bench.tape(module);
        x.publish(2, 0, 100);
        Check.due("five are done", x.execute(), 5);
        String[] due = {"REFUSED 4", "DONE", "ERROR 3", "DONE", "ERROR 3", "DONE", "REFUSED 1", "DONE", "DONE", "FAULTY 21"};
        for (int t = 0; t < due.length; t++) {
            Check.due("transaction " + t, brief(bench.tell(t)), due[t]);
        }
    }

    /** "A BLOCK is a row of at most 32 TRANSACTIONS": all of them are done, also in two blocks. */
    private static void fullBlocks() {
        Bench bench = bench();
        ResourceLedger x = bench.ledger;
        x.begin();
        for (int i = 0; i < 32; i++) {
            x.call(1 + i % 2, i / 2 + (i % 2 == 0 ? 1 : 0), 100, 7, 0);
            x.argument(3, 0, i);
            if (i == 15) {
                Check.due("the first sixteen", x.execute(), 16);
            }
        }
        Check.due("the others", x.execute(), 16);
        for (int t = 0; t < 32; t++) {
            Check.due("transaction " + t, bench.tell(t), "DONE gas 1");
        }
        Check.due("sequences", x.account(1, 1) + " " + x.account(2, 1), "17 16");
    }
}
