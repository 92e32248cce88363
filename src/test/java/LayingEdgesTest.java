import java.nio.ByteBuffer;
import java.util.ArrayList;
import java.util.List;

/**
 * Promises 1 to 9, sentence by sentence: the last input on the one side of each boundary and the
 * first on the other, and what a refused call leaves as it was. Sentences of the document stand
 * in quotes.
 */
final class LayingEdgesTest {
    private static final int BAD = ResourceLedger.BAD;
    private static final int NO = ResourceLedger.NO;
    private static final int FULL = ResourceLedger.FULL;
    private static final int LEAST = Integer.MIN_VALUE;
    private static final int MOST = Integer.MAX_VALUE;
    private static final long BOUND = 1L << 62;

    private LayingEdgesTest() {
    }

    public static void main(String[] args) {
        constants();
        newObject();
        anyWorkers();
        tapeCounts();
        tapeFull();
        tapeOrder();
        mintSums();
        mintBurned();
        mintPlaces();
        begin();
        publishLimits();
        publishFull();
        callNumbers();
        callFull();
        argumentNumbers();
        argumentNo();
        argumentFull();
        weave();
        unweave();
        Check.end();
    }

    private static void constants() {
        Check.due("BAD", BAD, -1);
        Check.due("NO", NO, -2);
        Check.due("FULL", FULL, -3);
    }

    /** "no accounts, modules but module 0, resources, transactions" */
    private static void newObject() {
        ResourceLedger x = new ResourceLedger(8);
        for (int i = 0; i < 4; i++) {
            Check.due("no places of kind " + i, x.places(i), 0);
            Check.due("no coins of kind " + i, x.coins(i), 0);
            Check.due("an empty root, number " + i, x.root(i), 0);
        }
        Check.due("no account", x.account(0, 0) + x.account(0, 1), 0);
        Check.due("no resource", x.resource(0, 0, 0), NO);
        Check.due("no byte of one", x.byteOf(0), BAD);
        Check.due("no transaction is told", x.told(0, 0), BAD);
        Check.due("no transaction gets an argument", x.argument(1, 0, 0), NO);
        Check.due("no transaction waits", x.execute(), NO);
        Check.due("no transactions", x.begin(), 0);
        Check.due("an empty weave", x.unweave(), 0);
        Check.due("no slips", x.slips(), 0);
        // Module 0 is there, so its functions are refused as not entry; no other one is.
        x.mint(0, 100);
        x.call(0, 0, 10, 0, 0);
        x.call(0, 0, 10, 1, 0);
        x.call(0, 0, 10, 65535, 0);
        Check.due("none is done", x.execute(), 0);
        Check.due("module 0", x.code(0), 6);
        Check.due("module 1", x.code(1), 4);
        Check.due("module 65535", x.code(2), 4);
        Check.due("an empty tape", x.type(0, 1), 1);
    }

    /** "So many workers (brought to 1 .. 8)": and what is told is the same with any of them. */
    private static void anyWorkers() {
        String one = told(1);
        for (int workers : new int[] {LEAST, -8, -1, 0, 2, 7, 8, 9, 16, MOST}) {
            Check.due("workers " + workers, told(workers), one);
        }
        Check.due("all are done", one.startsWith("3 "), true);
    }

    private static String told(int workers) {
        ResourceLedger x = new ResourceLedger(workers);
        x.mint(1, 5000);
        x.weave(0x0123456789abcdefL);
        x.weave(-1);
        for (byte b : new Assembly(7).function(2, "long", "long", "", "move 0; ret").toBytes()) {
            x.type(b, 1);
        }
        x.publish(1, 0, 100);
        x.call(1, 1, 100, 7, 0);
        x.argument(3, 0, 5);
        x.call(1, 2, 100, 7, 0);
        x.argument(3, 0, 6);
        return x.execute() + " " + x.result(1, 0, 0) + " " + x.result(2, 0, 0) + " " + x.account(1, 0) + " " + x.root(0);
    }

    /** "BAD when n is not 1 .. 8" */
    private static void tapeCounts() {
        ResourceLedger x = new ResourceLedger(1);
        Check.due("1 byte", x.type(-1, 1), 1);
        Check.due("8 bytes", x.type(-1, 8), 9);
        for (int n : new int[] {LEAST, -8, -1, 0, 9, 10, 16, MOST}) {
            Check.due(n + " bytes", x.type(-1, n), BAD);
        }
        Check.due("none came with them", x.type(-1, 1), 10);
    }

    private static ResourceLedger filled(int length) {
        ResourceLedger x = new ResourceLedger(1);
        for (int i = 0; i < length / 8; i++) {
            x.type(0, 8);
        }
        if (length % 8 != 0) {
            x.type(0, length % 8);
        }
        return x;
    }

    /** "THE TAPE has at most 2048 bytes"; "FULL when not all of them fit (none comes then)" */
    private static void tapeFull() {
        for (int n = 1; n <= 8; n++) {
            Check.due("the last " + n, filled(2048 - n).type(0, n), 2048);
            ResourceLedger x = filled(2049 - n);
            Check.due("one too many of " + n, x.type(0, n), FULL);
            if (n > 1) {
                Check.due("none of " + n + " came", x.type(0, n - 1), 2048);
            }
            Check.due("full by then", x.type(0, 1), FULL);
            Check.due("no number of bytes, and full", x.type(0, 0), BAD);
            Check.due("no number of bytes, and full", x.type(0, 9), BAD);
        }
    }

    /** "The lowest n bytes of bytes, the highest of them first": the module's digest tells. */
    private static void tapeOrder() {
        byte[] module = new Assembly(0x1234).function(0, "", "", "", "long 123456789012345678; pop; ".repeat(5) + "ret").toBytes();
        for (int n = 1; n <= 8; n++) {
            Bench bench = new Bench();
            for (int from = 0; from < module.length; from += n) {
                int count = Math.min(n, module.length - from);
                long word = -1;
                for (int i = 0; i < count; i++) {
                    word = word << 8 | module[from + i] & 255;
                }
                Check.due("its length", bench.ledger.type(word, count), from + count);
            }
            bench.ledger.publish(1, 0, 1000);
            Check.due("taken", bench.ledger.execute(), 1);
            List<RootModel.Place> places = new ArrayList<>();
            places.add(RootModel.module(module));
            for (long a = 1; a <= 2; a++) {
                places.add(RootModel.account(a, bench.ledger.account(a, 0), bench.ledger.account(a, 1)));
            }
            ByteBuffer root = new RootModel().root(places);
            Check.due("root, typed by " + n, bench.ledger.root(0), root.getLong(0));
        }
    }

    /** "false when coins are below 0, all that there are .. would be 2^62 or more" */
    private static void mintSums() {
        Bench bench = new Bench();
        ResourceLedger x = bench.ledger;
        String before = bench.state();
        Check.due("one below 0", x.mint(1, -1), false);
        Check.due("far below 0", x.mint(1, Long.MIN_VALUE), false);
        Check.due("below 0 for a new account", x.mint(5, -1), false);
        Check.due("2^62 at once", x.mint(5, BOUND), false);
        Check.due("the greatest number", x.mint(5, Long.MAX_VALUE), false);
        Check.due("2^62 with those there", x.mint(5, BOUND - 200_000_000L), false);
        Check.due("nothing has changed", bench.state(), before);
        Check.due("one less", x.mint(5, BOUND - 200_000_001L), true);
        Check.due("one more", x.mint(5, 1), false);
        Check.due("one more for a new account", x.mint(6, 1), false);
        Check.due("the greatest number then", x.mint(1, Long.MAX_VALUE), false);
        Check.due("none", x.mint(5, 0), true);
        Check.due("none for a new account", x.mint(6, 0), true);
        Check.due("an account by it", x.places(3), 4);
        Check.due("all that was minted", x.coins(0), BOUND - 1);
        Check.due("all balances", x.coins(2), BOUND - 1);
        ResourceLedger y = new ResourceLedger(1);
        Check.due("2^62 for the first", y.mint(1, BOUND), false);
        Check.due("no account by it", y.places(0), 0);
        Check.due("2^62 - 1 for the first", y.mint(1, BOUND - 1), true);
        // Twice for one account: they come together.
        ResourceLedger z = new ResourceLedger(1);
        for (long address : new long[] {0, -1, Long.MIN_VALUE, Long.MAX_VALUE}) {
            Check.due("mint", z.mint(address, 5) && z.mint(address, 7), true);
            Check.due("balance of " + address, z.account(address, 0), 12);
            Check.due("sequence of " + address, z.account(address, 1), 0);
        }
        Check.due("four accounts", z.places(3), 4);
    }

    /** "(minted, less what was BURNED)" */
    private static void mintBurned() {
        ResourceLedger x = new ResourceLedger(1);
        x.mint(1, BOUND - 1);
        x.publish(1, 0, 10);
        x.execute();
        Check.due("10 are burned", x.coins(1), 10);
        Check.due("11 more", x.mint(2, 11), false);
        Check.due("10 more", x.mint(2, 10), true);
        Check.due("1 more", x.mint(2, 1), false);
        Check.due("minted, with those burned", x.coins(0), BOUND + 9);
    }

    /** "or the account is new and no PLACE is free": modules and resources have PLACES, too. */
    private static void mintPlaces() {
        Bench bench = new Bench();
        ResourceLedger x = bench.ledger;
        bench.publish(new Assembly(7).structure(12, "long").function(6, "", "", "", "long 1; pack 0; put 0; ret"));
        bench.run(7, 0);
        Check.due("two accounts, a module, a resource", x.places(0), 4);
        for (int i = 4; i < 255; i++) {
            x.mint(100 + i, 0);
        }
        Check.due("the last place", x.mint(90, 3), true);
        String before = bench.state();
        Check.due("256 places", x.places(0), 256);
        Check.due("no place is free", x.mint(91, 3), false);
        Check.due("nor for none", x.mint(91, 0), false);
        Check.due("nothing has changed", bench.state(), before);
        Check.due("an account that is there", x.mint(90, 4), true);
        Check.due("its balance", x.account(90, 0), 7);
    }

    /** "The block has no transactions again: how many it had." */
    private static void begin() {
        Bench bench = new Bench();
        ResourceLedger x = bench.ledger;
        Check.due("none", x.begin(), 0);
        x.type(5, 3);
        x.weave(5);
        x.call(1, 0, 10, 0, 0);
        Check.due("one that waits", x.begin(), 1);
        Check.due("it is no more", x.told(0, 0), BAD);
        Check.due("none again", x.begin(), 0);
        x.call(1, 0, 10, 0, 0);
        x.execute();
        x.call(1, 0, 10, 0, 0);
        x.call(1, 0, 10, 0, 0);
        Check.due("one done and two that wait", x.begin(), 3);
        Check.due("those that waited are not done", x.execute(), NO);
        Check.due("numbers begin at 0", x.call(1, 0, 10, 0, 0), 0);
        Check.due("not done yet", x.told(0, 0), NO);
        for (int i = 1; i < 32; i++) {
            x.call(1, 0, 10, 0, 0);
        }
        Check.due("32", x.begin(), 32);
        Check.due("the tape stays", x.type(5, 1), 4);
        Check.due("the weave stays", x.unweave(), 16);
    }

    /** "BAD when limit is not 10 .. 20000"; "(the tape stays with both)" */
    private static void publishLimits() {
        ResourceLedger x = new ResourceLedger(1);
        x.type(1, 5);
        for (int limit : new int[] {LEAST, -10, 0, 9, 20001, MOST}) {
            Check.due("publish with limit " + limit, x.publish(1, 0, limit), BAD);
        }
        Check.due("no transaction came", x.begin(), 0);
        Check.due("the tape stays", x.type(1, 1), 6);
        Check.due("limit 10", x.publish(1, 0, 10), 0);
        Check.due("the tape is empty then", x.type(1, 1), 1);
        Check.due("limit 20000", x.publish(1, 0, 20000), 1);
        Check.due("the tape is empty again", x.type(1, 2), 2);
    }

    /** "then FULL when there are 32, those that were done since begin() among them" */
    private static void publishFull() {
        ResourceLedger x = new ResourceLedger(1);
        for (int i = 0; i < 31; i++) {
            Check.due("its number", x.publish(1, 0, 10), i);
        }
        x.execute();
        Check.due("the 32nd", x.publish(1, 0, 10), 31);
        x.type(1, 5);
        Check.due("a 33rd", x.publish(1, 0, 10), FULL);
        Check.due("a 33rd with a limit too small", x.publish(1, 0, 9), BAD);
        Check.due("a 33rd with a limit too great", x.publish(1, 0, 20001), BAD);
        Check.due("the tape stays", x.type(1, 1), 6);
        x.execute();
        Check.due("all 32 were done", x.publish(1, 0, 10), FULL);
        Check.due("the tape stays then", x.type(1, 1), 7);
        Check.due("32 of them", x.begin(), 32);
        Check.due("from 0 again", x.publish(1, 0, 10), 0);
    }

    /** "likewise. BAD also when the module is not 0 .. 65535, or the function not 0 .. 63." */
    private static void callNumbers() {
        ResourceLedger x = new ResourceLedger(1);
        for (int limit : new int[] {LEAST, -10, 0, 9, 20001, MOST}) {
            Check.due("call with limit " + limit, x.call(1, 0, limit, 0, 0), BAD);
        }
        for (int module : new int[] {LEAST, -1, 65536, MOST}) {
            Check.due("call of module " + module, x.call(1, 0, 10, module, 0), BAD);
        }
        for (int function : new int[] {LEAST, -1, 64, MOST}) {
            Check.due("call of function " + function, x.call(1, 0, 10, 0, function), BAD);
        }
        Check.due("no transaction came", x.begin(), 0);
        Check.due("the least", x.call(1, 0, 10, 0, 0), 0);
        Check.due("the greatest", x.call(1, 0, 20000, 65535, 63), 1);
        x.type(1, 5);
        x.call(1, 0, 10, 0, 0);
        Check.due("a call leaves the tape", x.type(1, 1), 6);
    }

    private static void callFull() {
        ResourceLedger x = new ResourceLedger(1);
        for (int i = 0; i < 31; i++) {
            x.publish(1, 0, 10);
        }
        x.execute();
        Check.due("the 32nd", x.call(1, 0, 10, 0, 0), 31);
        Check.due("a 33rd", x.call(1, 0, 10, 0, 0), FULL);
        Check.due("a 33rd with a bad limit", x.call(1, 0, 9, 0, 0), BAD);
        Check.due("a 33rd of no module", x.call(1, 0, 10, 65536, 0), BAD);
        Check.due("a 33rd of no function", x.call(1, 0, 10, 0, 64), BAD);
        Check.due("the 32nd is the latest", x.argument(1, 0, 1), 1);
        x.execute();
        Check.due("all were done", x.call(1, 0, 10, 0, 0), FULL);
    }

    /** "(a truth is 0 or 1, a byte 0 .. 255; high is to be 0 for all but wides)" */
    private static void argumentNumbers() {
        long[] numbers = {Long.MIN_VALUE, -1, 0, 1, 2, 255, 256, 1L << 32, Long.MAX_VALUE};
        for (int type : new int[] {LEAST, -1, 0, 1, 2, 3, 4, 5, 6, 7, 8, 9, MOST}) {
            for (long low : numbers) {
                for (long high : new long[] {Long.MIN_VALUE, -1, 0, 1, Long.MAX_VALUE}) {
                    boolean fits = type == 1 ? high == 0 && (low == 0 || low == 1)
                        : type == 2 ? high == 0 && (low == 0 || low == 1 || low == 2 || low == 255)
                        : type == 3 || type == 5 ? high == 0 : type == 4;
                    ResourceLedger x = new ResourceLedger(1);
                    x.call(1, 0, 10, 0, 0);
                    Check.due("argument " + type + " " + high + " " + low, x.argument(type, high, low), fits ? 1 : BAD);
                    Check.due("the next", x.argument(1, 0, 0), fits ? 2 : 1);
                }
            }
        }
    }

    /** "NO when there is no transaction, the latest one is no CALL, or was done" */
    private static void argumentNo() {
        ResourceLedger x = new ResourceLedger(1);
        Check.due("no transaction", x.argument(1, 0, 1), NO);
        Check.due("no transaction, and no number", x.argument(1, 0, 2), BAD);
        x.call(1, 0, 10, 0, 0);
        x.publish(1, 0, 10);
        Check.due("the latest is no CALL", x.argument(1, 0, 1), NO);
        Check.due("the latest is no CALL, and no type", x.argument(6, 0, 1), BAD);
        x.call(1, 0, 10, 0, 0);
        Check.due("the latest is a CALL", x.argument(1, 0, 1), 1);
        x.execute();
        Check.due("it was done", x.argument(1, 0, 1), NO);
        Check.due("it was done, and no number", x.argument(2, 0, 256), BAD);
        x.call(1, 0, 10, 0, 0);
        Check.due("one that waits behind it", x.argument(1, 0, 1), 1);
        x.begin();
        Check.due("no transaction again", x.argument(1, 0, 1), NO);
    }

    /** "FULL when it has 8": and the first that fits is told. */
    private static void argumentFull() {
        ResourceLedger x = new ResourceLedger(1);
        x.call(1, 0, 10, 0, 0);
        for (int i = 1; i <= 8; i++) {
            Check.due("how many", x.argument(3, 0, i), i);
        }
        Check.due("a ninth", x.argument(3, 0, 9), FULL);
        Check.due("a ninth of no type", x.argument(0, 0, 9), BAD);
        Check.due("a ninth of no number", x.argument(3, 1, 9), BAD);
        x.call(1, 0, 10, 0, 0);
        Check.due("another one has its own", x.argument(3, 0, 1), 1);
        for (int i = 2; i <= 8; i++) {
            x.argument(3, 0, i);
        }
        x.execute();
        Check.due("it has 8, and was done", x.argument(3, 0, 9), NO);
        x.publish(1, 0, 10);
        Check.due("it has 8, and another came", x.argument(3, 0, 9), NO);
        // All eight come to the function, in their order; a ninth that was refused does not.
        Bench bench = new Bench();
        bench.publish(new Assembly(7).function(2, "long byte truth wide addr long byte truth",
            "truth byte long addr wide truth byte long", "",
            "move 7; move 6; move 5; move 4; move 3; move 2; move 1; move 0; ret"));
        Check.due("eight", bench.run(7, 0, "long:1", "byte:2", "truth:1", "wide:4:44", "addr:5", "long:6", "byte:7", "truth:0",
            "long:9"), "DONE gas 9 0 7 6 5 4:44 1 2 1");
    }

    /** "Sixteen numbers come behind the weave"; "FULL when not all of them fit (none comes then)" */
    private static void weave() {
        ResourceLedger x = new ResourceLedger(1);
        for (int i = 1; i <= 255; i++) {
            x.weave(i);
        }
        Check.due("4096, the most", x.weave(-1), 4096);
        Check.due("none fits", x.weave(-1), FULL);
        Check.due("nor then", x.weave(0), FULL);
        Check.due("none came", x.unweave(), 4096);
        Check.due("the first sixteen", x.weave(Long.MIN_VALUE), 16);
        Check.due("the next sixteen", x.weave(0), 32);
    }

    /** "The weave is empty; how many numbers it had." */
    private static void unweave() {
        ResourceLedger x = new ResourceLedger(1);
        Check.due("none", x.unweave(), 0);
        x.weave(1);
        Check.due("sixteen", x.unweave(), 16);
        Check.due("none then", x.unweave(), 0);
        // It is used from its beginning for each block, so blocks leave it as it is.
        x.weave(1);
        x.mint(1, 100);
        x.call(1, 0, 10, 0, 0);
        x.execute();
        Check.due("a block leaves it", x.unweave(), 16);
    }
}
