/**
 * Promises 10 to 20, sentence by sentence: the last input on the one side of each boundary and
 * the first on the other. Sentences of the document stand in quotes.
 */
final class AnsweringEdgesTest {
    private static final int BAD = ResourceLedger.BAD;
    private static final int NO = ResourceLedger.NO;
    private static final int LEAST = Integer.MIN_VALUE;
    private static final int MOST = Integer.MAX_VALUE;

    private AnsweringEdgesTest() {
    }

    public static void main(String[] args) {
        executeCounts();
        executeNo();
        executeOnce();
        toldOfEach();
        toldBounds();
        toldPlaces();
        codes();
        resultNumbers();
        resultNone();
        accounts();
        coins();
        places();
        resources();
        bytes();
        bytesAsTheyWere();
        roots();
        slips();
        Check.end();
    }

    /**
     * Functions of module 7: 0 gives 5, 1 is ABORTED with 9, 2 is in ERROR 1, 3 gives eight
     * results, 4 puts a resource with a long and a byte, 5 takes it away.
     */
    private static Bench withModule() {
        Bench bench = new Bench();
        Check.due("module", bench.publish(new Assembly(7).structure(15, "long byte")
            .function(2, "", "long", "", "long 5; ret")
            .function(2, "", "", "", "long 9; abort")
            .function(2, "", "long", "", "long 1; long 0; div; ret")
            .function(2, "", "truth byte long wide addr truth wide long", "",
                "yes; byte 255; long -1; wide -2 -3; addr -4; no; wide 1 0; long 8; ret")
            .function(6, "long byte", "", "", "move 0; move 1; pack 0; put 0; ret")
            .function(6, "", "", "", "sender; take 0; pop; ret")), "DONE");
        bench.ledger.begin();
        return bench;
    }

    /** One of each outcome, by number: DONE, ABORTED, in ERROR, REFUSED, FAULTY, and a publication that is DONE. */
    private static Bench withEach() {
        Bench bench = withModule();
        ResourceLedger x = bench.ledger;
        x.call(1, 1, 100, 7, 0);
        x.call(1, 2, 100, 7, 1);
        x.call(1, 3, 100, 7, 2);
        x.call(1, 9, 100, 7, 0);
        bench.tape(Assembly.bytes(82, 76, 77, 49, 0, 8, 33));
        x.publish(1, 4, 100);
        bench.tape(new Assembly(9).toBytes());
        x.publish(1, 5, 100);
        return bench;
    }

    /** "how many of the transactions that waited are DONE" */
    private static void executeCounts() {
        Bench bench = withEach();
        Check.due("two of six", bench.ledger.execute(), 2);
        Bench other = withModule();
        for (int i = 0; i < 32; i++) {
            other.ledger.call(1, 1 + i, 100, 7, 0);
        }
        Check.due("32 of 32", other.ledger.execute(), 32);
        Check.due("the last one", other.tell(31), "DONE gas 2 5");
        Bench none = withModule();
        none.ledger.call(1, 0, 100, 7, 0);
        none.ledger.call(1, 1, 100, 7, 1);
        Check.due("none of two", none.ledger.execute(), 0);
    }

    /** "NO when nothing waits: it was done already and nothing came since, or there is none" */
    private static void executeNo() {
        Bench bench = withModule();
        ResourceLedger x = bench.ledger;
        Check.due("there is none", x.execute(), NO);
        x.call(1, 1, 100, 7, 1);
        Check.due("none is DONE", x.execute(), 0);
        String before = bench.state();
        Check.due("it was done already", x.execute(), NO);
        Check.due("and again", x.execute(), NO);
        Check.due("nothing has changed", bench.state(), before);
        x.publish(1, 2, 9);
        Check.due("one that was BAD did not come", x.execute(), NO);
        x.publish(1, 2, 10);
        Check.due("something came since", x.execute(), 0);
        x.call(1, 3, 100, 7, 0);
        x.begin();
        Check.due("what came is no more", x.execute(), NO);
    }

    /** "each transaction is done once: those that come behind are a block of their own then" */
    private static void executeOnce() {
        Bench bench = withModule();
        ResourceLedger x = bench.ledger;
        x.call(1, 1, 100, 7, 0);
        x.call(1, 2, 100, 7, 0);
        Check.due("two", x.execute(), 2);
        x.call(1, 3, 100, 7, 0);
        Check.due("the third one alone", x.execute(), 1);
        Check.due("its number", bench.tell(2), "DONE gas 2 5");
        Check.due("each once", x.account(1, 1), 4);
        // "Its transactions stay to be asked for till begin()"
        Check.due("the first stays", bench.tell(0), "DONE gas 2 5");
        x.begin();
        Check.due("till begin()", x.told(0, 0), BAD);
    }

    /** "what = 0 its OUTCOME, 1 gas used, 2 how many RESULTS, 3 the place of a fault (0 without one)" */
    private static void toldOfEach() {
        Bench bench = withEach();
        bench.ledger.execute();
        int[][] due = {{0, 2, 1, 0}, {1, 2, 0, 0}, {2, 3, 0, 0}, {3, 0, 0, 0}, {4, 11, 0, 6}, {0, 11, 0, 0}};
        for (int t = 0; t < due.length; t++) {
            for (int what = 0; what < 4; what++) {
                Check.due("told(" + t + ", " + what + ")", bench.ledger.told(t, what), due[t][what]);
            }
        }
    }

    /** "BAD when there is none such, or another what; then NO when it was not done yet" */
    private static void toldBounds() {
        Bench bench = withEach();
        ResourceLedger x = bench.ledger;
        for (int what = 0; what < 4; what++) {
            Check.due("not done yet", x.told(0, what), NO);
            Check.due("the last, not done yet", x.told(5, what), NO);
            Check.due("none such", x.told(6, what), BAD);
        }
        for (int what : new int[] {LEAST, -1, 4, MOST}) {
            Check.due("not done yet, and what " + what, x.told(0, what), BAD);
        }
        x.execute();
        x.call(1, 6, 100, 7, 0);
        for (int what : new int[] {LEAST, -1, 4, MOST}) {
            Check.due("what " + what, x.told(0, what), BAD);
        }
        for (int t : new int[] {LEAST, -1, 7, 32, MOST}) {
            for (int what = 0; what < 4; what++) {
                Check.due("told of " + t, x.told(t, what), BAD);
            }
        }
        Check.due("the last that was done", x.told(5, 0), 0);
        Check.due("the first that was not", x.told(6, 0), NO);
    }

    /** "3 the place of a fault (0 without one)", also when the same row told of one before. */
    private static void toldPlaces() {
        Bench bench = withModule();
        ResourceLedger x = bench.ledger;
        bench.tape(new Assembly(8).function(0, "", "", "", "nothing; pop").toBytes());
        x.publish(1, 1, 100);
        x.execute();
        Check.due("fault 31 at 1", x.code(0) + " " + x.told(0, 3), "31 1");
        x.begin();
        x.call(1, 2, 100, 7, 0);
        x.execute();
        Check.due("a call has none", x.told(0, 3), 0);
        for (int i = 0; i < 7; i++) {
            Check.due("module", bench.publish(new Assembly(20 + i)), "DONE");
            Check.due("a module that was taken has none", x.told(0, 3), 0);
        }
        Check.due("one too many", bench.publish(Assembly.bytes(1)), "ERROR 4");
        Check.due("no place of an ERROR", x.told(0, 3), 0);
        bench.tape(Assembly.bytes(1, 2, 3));
        x.begin();
        x.publish(1, 0, 100);
        x.execute();
        Check.due("no place of one that is REFUSED", x.told(0, 0) + " " + x.told(0, 3), "3 0");
    }

    /** "Its CODE; 0 when it has none, was not done yet, or there is no such transaction." */
    private static void codes() {
        Bench bench = withEach();
        ResourceLedger x = bench.ledger;
        for (int t = 0; t < 6; t++) {
            Check.due("not done yet", x.code(t), 0);
        }
        x.execute();
        long[] due = {0, 9, 1, 2, 3, 0};
        for (int t = 0; t < 6; t++) {
            Check.due("code of " + t, x.code(t), due[t]);
        }
        for (int t : new int[] {LEAST, -1, 6, 31, 32, MOST}) {
            Check.due("no such transaction " + t, x.code(t), 0);
        }
        x.begin();
        x.call(1, 6, 100, 7, 0);
        x.call(1, 6, 100, 7, 0);
        Check.due("one of before is no more", x.code(1), 0);
        x.execute();
        Check.due("DONE where there was a code before", x.code(0) + " " + x.code(1), "0 2");
        // The first one that was not done yet has none, though its row had one before; nor has one behind 32.
        bench.run(7, 1);
        x.begin();
        x.call(1, 0, 100, 7, 0);
        Check.due("not done yet, where there was a code before", x.code(0), 0);
        for (int i = 1; i < 32; i++) {
            x.call(1, 0, 100, 7, 0);
        }
        x.execute();
        Check.due("the last of 32", x.code(31), 2);
        Check.due("none behind 32", x.code(32) + x.result(32, 0, 0), 0);
    }

    /** "its lower 64 bits (what = 0) or upper ones (1) or its type (2)" */
    private static void resultNumbers() {
        Bench bench = withModule();
        ResourceLedger x = bench.ledger;
        bench.run(7, 3);
        long[][] due = {{1, 0, 1}, {255, 0, 2}, {-1, 0, 3}, {-3, -2, 4}, {-4, 0, 5}, {0, 0, 1}, {0, 1, 4}, {8, 0, 3}};
        Check.due("eight results", x.told(0, 2), 8);
        for (int i = 0; i < 8; i++) {
            for (int what = 0; what < 3; what++) {
                Check.due("result " + i + " " + what, x.result(0, i, what), due[i][what]);
            }
        }
        for (int i : new int[] {LEAST, -1, 8, 9, MOST}) {
            Check.due("no result " + i, x.result(0, i, 0) + x.result(0, i, 1) + x.result(0, i, 2), 0);
        }
        for (int what : new int[] {LEAST, -1, 3, 4, MOST}) {
            Check.due("another what " + what, x.result(0, 7, what), 0);
        }
    }

    /** "0 when there is none (no such transaction, one that was not done yet, another i or what)" */
    private static void resultNone() {
        Bench bench = withEach();
        ResourceLedger x = bench.ledger;
        Check.due("not done yet", x.result(0, 0, 2), 0);
        x.execute();
        Check.due("of one that is DONE", x.result(0, 0, 0) + " " + x.result(0, 0, 2), "5 3");
        Check.due("just one", x.result(0, 1, 2), 0);
        for (int t = 1; t < 6; t++) {
            Check.due("no result of " + t, x.result(t, 0, 2), 0);
        }
        for (int t : new int[] {LEAST, -1, 6, 32, MOST}) {
            Check.due("no such transaction " + t, x.result(t, 0, 2), 0);
        }
        x.begin();
        Check.due("none is there", x.result(0, 0, 2), 0);
        x.call(1, 6, 100, 7, 1);
        Check.due("another one, not done yet", x.result(0, 0, 2), 0);
        x.execute();
        Check.due("another one, ABORTED", x.result(0, 0, 2), 0);
    }

    /** "The BALANCE (what = 0) or SEQUENCE (1) of an account; 0 when there is none, and for another what." */
    private static void accounts() {
        Bench bench = withEach();
        ResourceLedger x = bench.ledger;
        x.execute();
        // Gas of the module before, then 2, 2, 3, 0, 11, 11; six of seven raised the sequence.
        long used = x.coins(1);
        Check.due("balance", x.account(1, 0), 100_000_000L - used);
        Check.due("sequence", x.account(1, 1), 6);
        Check.due("sequence of one that sent nothing", x.account(2, 1), 0);
        for (int what : new int[] {LEAST, -1, 2, 3, MOST}) {
            Check.due("another what " + what, x.account(1, what), 0);
        }
        for (long address : new long[] {Long.MIN_VALUE, -1, 0, 3, Long.MAX_VALUE}) {
            Check.due("no account " + address, x.account(address, 0) + x.account(address, 1), 0);
        }
        Check.due("asking makes none", x.places(3), 2);
    }

    /** "All that was minted (0), BURNED (1), all balances (2), all that is in coins within resources (3)" */
    private static void coins() {
        Bench bench = new Bench();
        ResourceLedger x = bench.ledger;
        bench.publish(new Assembly(7).structure(12, "*S1").coin(1).element("S1")
            .function(6, "long long", "", "", "move 0; call 2; move 1; call 2; vector 0 2; pack 0; put 0; ret")
            .function(6, "", "", "*S1", "sender; borrow! 0; field! 0 0; last 0; sender; nothing; "
                + "long 0; abort"));
        long used = x.coins(1);
        Check.due("none in resources", x.coins(3), 0);
        Check.due("two coins", bench.run(7, 0, "long:40", "long:2").startsWith("DONE"), true);
        Check.due("within resources", x.coins(3), 42);
        used += x.told(0, 1);
        Check.due("of another one, too", bench.run(2, 1000, 7, 0, "long:100", "long:0").startsWith("DONE"), true);
        used += x.told(0, 1);
        Check.due("within both", x.coins(3), 142);
        Check.due("burned", x.coins(1), used);
        Check.due("all balances", x.coins(2), 200_000_000L - 142 - used);
        Check.due("minted", x.coins(0), 200_000_000L);
        Check.due("ABORTED with a coin in hand", bench.run(7, 1).startsWith("ABORTED"), true);
        Check.due("within both still", x.coins(3), 142);
        for (int what : new int[] {LEAST, -1, 4, MOST}) {
            Check.due("another what " + what, x.coins(what), 0);
        }
    }

    /** "How many PLACES there are (0); of these modules (1; without module 0), resources (2), accounts (3)" */
    private static void places() {
        Bench bench = withModule();
        ResourceLedger x = bench.ledger;
        Check.due("at first", text(x), "3 1 0 2");
        bench.run(7, 4, "long:1", "byte:1");
        Check.due("a resource", text(x), "4 1 1 2");
        x.mint(3, 0);
        Check.due("an account", text(x), "5 1 1 3");
        bench.publish(new Assembly(8));
        Check.due("a module", text(x), "6 2 1 3");
        bench.run(7, 5);
        Check.due("a resource less", text(x), "5 2 0 3");
        for (int what : new int[] {LEAST, -1, 4, MOST}) {
            Check.due("another what " + what, x.places(what), BAD);
        }
    }

    private static String text(ResourceLedger x) {
        return x.places(0) + " " + x.places(1) + " " + x.places(2) + " " + x.places(3);
    }

    /** "How many BYTES a resource has; NO when there is none." */
    private static void resources() {
        Bench bench = withModule();
        ResourceLedger x = bench.ledger;
        Check.due("none yet", x.resource(1, 7, 0), NO);
        bench.run(7, 4, "long:1", "byte:1");
        Check.due("8 and 1", x.resource(1, 7, 0), 9);
        for (long address : new long[] {Long.MIN_VALUE, -1, 0, 2, 1L << 32 | 1, Long.MAX_VALUE}) {
            Check.due("of " + address, x.resource(address, 7, 0), NO);
        }
        for (int module : new int[] {LEAST, -1, 0, 6, 8, 65536 + 7, MOST}) {
            Check.due("of module " + module, x.resource(1, module, 0), NO);
        }
        for (int structure : new int[] {LEAST, -1, 1, 256, MOST}) {
            Check.due("of structure " + structure, x.resource(1, 7, structure), NO);
        }
        bench.run(7, 5);
        Check.due("none again", x.resource(1, 7, 0), NO);
    }

    /** "BAD when there is no such byte, or it answered NO" */
    private static void bytes() {
        Bench bench = withModule();
        ResourceLedger x = bench.ledger;
        bench.run(7, 4, "long:72623859790382856", "byte:255");
        Check.due("before it was asked for", x.byteOf(0), BAD);
        x.resource(1, 7, 0);
        for (int i = 0; i < 8; i++) {
            Check.due("byte " + i, x.byteOf(i), i + 1);
        }
        Check.due("the last byte", x.byteOf(8), 255);
        for (int i : new int[] {LEAST, -1, 9, 10, 1024, MOST}) {
            Check.due("no byte " + i, x.byteOf(i), BAD);
        }
        x.resource(2, 7, 0);
        Check.due("it answered NO", x.byteOf(0), BAD);
        x.resource(1, 7, 0);
        Check.due("it is asked for again", x.byteOf(0), 1);
    }

    /** "of the resource that resource() was asked for latest, as it was then" */
    private static void bytesAsTheyWere() {
        Bench bench = withModule();
        ResourceLedger x = bench.ledger;
        bench.run(7, 4, "long:1", "byte:11");
        bench.run(2, 100, 7, 4, "long:2", "byte:22");
        x.resource(1, 7, 0);
        x.resource(2, 7, 0);
        Check.due("the latest", x.byteOf(8), 22);
        bench.run(2, 100, 7, 5);
        Check.due("as it was, though it is gone", x.byteOf(8), 22);
        bench.run(2, 100, 7, 4, "long:2", "byte:33");
        x.root(0);
        Check.due("as it was, though there is another", x.byteOf(8), 22);
        x.resource(2, 7, 0);
        Check.due("as it is", x.byteOf(8), 33);
    }

    /** "Number i (0 .. 3) of THE ROOT, 64 bits each; 0 when there is no such number." */
    private static void roots() {
        Bench bench = withModule();
        ResourceLedger x = bench.ledger;
        for (int i = 0; i < 4; i++) {
            Check.due("a number " + i, x.root(i) != 0, true);
        }
        for (int i : new int[] {LEAST, -1, 4, 5, MOST}) {
            Check.due("no number " + i, x.root(i), 0);
        }
        // What is told of a block leaves the root as it is, what is done changes it.
        String before = bench.state();
        x.type(1, 1);
        x.weave(1);
        x.call(1, 1, 100, 7, 1);
        Check.due("one that waits", bench.state(), before);
        long root = x.root(3);
        x.execute();
        Check.due("one that was ABORTED has paid", x.root(3) != root, true);
        root = x.root(3);
        x.call(1, 1, 100, 7, 1);
        x.execute();
        Check.due("one that was REFUSED has not", x.root(3), root);
        x.mint(2, 0);
        Check.due("no coins for one that is there", x.root(3), root);
        x.mint(2, 1);
        Check.due("a coin", x.root(3) != root, true);
    }

    /** "How many times .. something was done that looking should have ruled out": never. */
    private static void slips() {
        Bench bench = withEach();
        Check.due("at first", bench.ledger.slips(), 0);
        bench.ledger.execute();
        Check.due("behind each outcome", bench.ledger.slips(), 0);
    }
}
