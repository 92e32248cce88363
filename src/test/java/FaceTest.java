/** Promises 1 to 13 where no code is done: the tape, minting, laying transactions, the weave. */
final class FaceTest {
    private FaceTest() {
    }

    public static void main(String[] args) {
        newObject();
        tape();
        minting();
        laying();
        arguments();
        weaving();
        executing();
        answersBeforeAndBeyond();
        Check.end();
    }

    private static void newObject() {
        for (int workers : new int[] {Integer.MIN_VALUE, -1, 0, 1, 3, 8, 9, Integer.MAX_VALUE}) {
            ResourceLedger x = new ResourceLedger(workers);
            String name = "new " + workers;
            for (int what = 0; what < 4; what++) {
                Check.due(name + " places", x.places(what), 0);
                Check.due(name + " coins", x.coins(what), 0);
                Check.due(name + " root", x.root(what), 0);
            }
            Check.due(name + " begin", x.begin(), 0);
            Check.due(name + " unweave", x.unweave(), 0);
            Check.due(name + " execute", x.execute(), ResourceLedger.NO);
            Check.due(name + " told", x.told(0, 0), ResourceLedger.BAD);
            Check.due(name + " slips", x.slips(), 0);
            Check.due(name + " type", x.type(0, 1), 1);
        }
    }

    private static void tape() {
        ResourceLedger x = new ResourceLedger(1);
        Check.due("type 0 bytes", x.type(1, 0), ResourceLedger.BAD);
        Check.due("type 9 bytes", x.type(1, 9), ResourceLedger.BAD);
        Check.due("type -1 bytes", x.type(1, -1), ResourceLedger.BAD);
        for (int i = 1; i <= 255; i++) {
            Check.due("type 8", x.type(i, 8), 8 * i);
        }
        Check.due("type 7", x.type(0, 7), 2047);
        Check.due("type beyond the end", x.type(0, 2), ResourceLedger.FULL);
        Check.due("type bad before full", x.type(0, 9), ResourceLedger.BAD);
        Check.due("type the last", x.type(0, 1), 2048);
        Check.due("type on a full tape", x.type(0, 1), ResourceLedger.FULL);
        Check.due("publish", x.publish(1, 0, 10), 0);
        Check.due("tape is empty then", x.type(0, 3), 3);
        Check.due("publish with a bad limit", x.publish(1, 0, 9), ResourceLedger.BAD);
        Check.due("tape stays then", x.type(0, 1), 4);

        // The lowest n bytes, the highest of them first: a module typed in uneven pieces is read.
        Bench bench = new Bench();
        bench.ledger.type(0x7752L, 1);
        bench.ledger.type(0x994c4d31L, 3);
        bench.ledger.type(0x0007L, 2);
        bench.ledger.type(-1L << 40, 5);
        bench.ledger.publish(1, 0, 100);
        bench.ledger.execute();
        Check.due("typed module", bench.tell(0), "DONE gas 11");
    }

    private static void minting() {
        ResourceLedger x = new ResourceLedger(1);
        Check.due("mint below 0", x.mint(1, -1), false);
        Check.due("no account by it", x.places(3), 0);
        Check.due("mint none", x.mint(1, 0), true);
        Check.due("an account by it", x.places(3), 1);
        Check.due("mint too many", x.mint(2, 1L << 62), false);
        Check.due("mint the most", x.mint(2, Long.MAX_VALUE), false);
        Check.due("mint just below", x.mint(2, (1L << 62) - 1), true);
        Check.due("mint one more", x.mint(1, 1), false);
        Check.due("mint none then", x.mint(-7, 0), true);
        Check.due("balance", x.account(2, 0), (1L << 62) - 1);
        Check.due("minted", x.coins(0), (1L << 62) - 1);
        // What was burned may be minted again.
        x.publish(2, 0, 10);
        x.execute();
        Check.due("burned", x.coins(1), 10);
        Check.due("mint as much as was burned and one", x.mint(1, 11), false);
        Check.due("mint as much as was burned", x.mint(1, 10), true);
        Check.due("minted then", x.coins(0), (1L << 62) + 9);

        ResourceLedger y = new ResourceLedger(1);
        for (int i = 0; i < 256; i++) {
            Check.due("mint account", y.mint(1000 + i, i), true);
        }
        Check.due("mint a 257th", y.mint(1, 5), false);
        Check.due("mint an old one", y.mint(1255, 5), true);
        Check.due("its balance", y.account(1255, 0), 260);
        Check.due("places", y.places(0), 256);
    }

    private static void laying() {
        ResourceLedger x = new ResourceLedger(1);
        Check.due("publish limit 9", x.publish(1, 0, 9), ResourceLedger.BAD);
        Check.due("publish limit 20001", x.publish(1, 0, 20001), ResourceLedger.BAD);
        Check.due("publish limit 10", x.publish(1, 0, 10), 0);
        Check.due("publish limit 20000", x.publish(1, 0, 20000), 1);
        Check.due("call limit 9", x.call(1, 0, 9, 0, 0), ResourceLedger.BAD);
        Check.due("call limit 20001", x.call(1, 0, 20001, 0, 0), ResourceLedger.BAD);
        Check.due("call module -1", x.call(1, 0, 10, -1, 0), ResourceLedger.BAD);
        Check.due("call module 65536", x.call(1, 0, 10, 65536, 0), ResourceLedger.BAD);
        Check.due("call function -1", x.call(1, 0, 10, 0, -1), ResourceLedger.BAD);
        Check.due("call function 64", x.call(1, 0, 10, 0, 64), ResourceLedger.BAD);
        Check.due("call", x.call(1, 0, 10, 65535, 63), 2);
        for (int i = 3; i < 32; i++) {
            Check.due("call", x.call(1, 0, 20000, 0, 0), i);
        }
        x.type(5, 5);
        Check.due("a 33rd call", x.call(1, 0, 10, 0, 0), ResourceLedger.FULL);
        Check.due("a 33rd publication", x.publish(1, 0, 10), ResourceLedger.FULL);
        Check.due("bad before full", x.publish(1, 0, 9), ResourceLedger.BAD);
        Check.due("bad call before full", x.call(1, 0, 10, 0, 64), ResourceLedger.BAD);
        Check.due("the tape stays", x.type(5, 5), 10);
        x.execute();
        Check.due("done ones count, too", x.call(1, 0, 10, 0, 0), ResourceLedger.FULL);
        Check.due("begin", x.begin(), 32);
        Check.due("begin again", x.begin(), 0);
        Check.due("from 0 again", x.call(1, 0, 10, 0, 0), 0);
    }

    private static void arguments() {
        ResourceLedger x = new ResourceLedger(1);
        int bad = ResourceLedger.BAD;
        Check.due("without a transaction", x.argument(3, 0, 5), ResourceLedger.NO);
        Check.due("bad before that", x.argument(6, 0, 5), bad);
        x.publish(1, 0, 10);
        Check.due("of a publication", x.argument(3, 0, 5), ResourceLedger.NO);
        x.call(1, 0, 10, 0, 0);
        Check.due("type 0", x.argument(0, 0, 0), bad);
        Check.due("type 6", x.argument(6, 0, 0), bad);
        Check.due("truth 2", x.argument(1, 0, 2), bad);
        Check.due("truth -1", x.argument(1, 0, -1), bad);
        Check.due("byte 256", x.argument(2, 0, 256), bad);
        Check.due("byte -1", x.argument(2, 0, -1), bad);
        for (int type : new int[] {1, 2, 3, 5}) {
            Check.due("an upper half", x.argument(type, 1, 0), bad);
        }
        Check.due("truth", x.argument(1, 0, 1), 1);
        Check.due("byte", x.argument(2, 0, 255), 2);
        Check.due("long", x.argument(3, 0, -1), 3);
        Check.due("wide", x.argument(4, -1, -1), 4);
        Check.due("address", x.argument(5, 0, -1), 5);
        x.argument(1, 0, 0);
        x.argument(2, 0, 0);
        Check.due("the eighth", x.argument(3, 0, 0), 8);
        Check.due("a ninth", x.argument(3, 0, 0), ResourceLedger.FULL);
        Check.due("bad before full", x.argument(3, 1, 0), bad);
        x.execute();
        Check.due("when it was done", x.argument(3, 0, 0), ResourceLedger.NO);
        x.begin();
        Check.due("behind begin", x.argument(3, 0, 0), ResourceLedger.NO);
        x.call(1, 0, 10, 0, 0);
        Check.due("a new call has none", x.argument(3, 0, 0), 1);
    }

    private static void weaving() {
        ResourceLedger x = new ResourceLedger(1);
        for (int i = 1; i <= 256; i++) {
            Check.due("weave", x.weave(-i), 16 * i);
        }
        Check.due("a 257th", x.weave(1), ResourceLedger.FULL);
        Check.due("unweave", x.unweave(), 4096);
        Check.due("weave again", x.weave(1), 16);
        Check.due("unweave then", x.unweave(), 16);
        Check.due("unweave again", x.unweave(), 0);
    }

    private static void executing() {
        Bench bench = new Bench();
        ResourceLedger x = bench.ledger;
        byte[] module = new Assembly(7).function(2, "", "long", "", "long 5; ret").toBytes();
        bench.tape(module);
        x.publish(1, 0, 100);
        x.call(1, 1, 100, 7, 0);
        x.call(1, 9, 100, 7, 0);
        Check.due("two of three", x.execute(), 2);
        Check.due("nothing waits", x.execute(), ResourceLedger.NO);
        x.call(1, 2, 100, 7, 0);
        Check.due("not done yet", x.told(3, 0), ResourceLedger.NO);
        Check.due("code of it", x.code(3), 0);
        Check.due("result of it", x.result(3, 0, 0), 0);
        Check.due("one that came behind", x.execute(), 1);
        Check.due("those before were done once", x.account(1, 1), 3);
        Check.due("all stay", bench.tell(1) + ", " + bench.tell(3), "DONE gas 2 5, DONE gas 2 5");
        Check.due("the refused one", bench.tell(2), "REFUSED 2 gas 0");
        Check.due("begin", x.begin(), 4);
        Check.due("none there", x.told(0, 0), ResourceLedger.BAD);
        Check.due("no code there", x.code(2), 0);
        x.call(1, 3, 100, 7, 0);
        x.call(1, 3, 100, 7, 0);
        x.call(1, 3, 100, 7, 0);
        for (int t = 0; t < 4; t++) {
            Check.due("nothing of an earlier block", x.code(t) + x.result(t, 0, 0) + x.result(t, 0, 2), 0);
        }
        Check.due("begin drops what waits", x.begin(), 3);
        Check.due("it was not done", x.account(1, 1), 3);
        Check.due("nothing waits then", x.execute(), ResourceLedger.NO);
    }

    private static void answersBeforeAndBeyond() {
        Bench bench = new Bench();
        ResourceLedger x = bench.ledger;
        bench.publish(new Assembly(7).function(2, "wide", "wide truth", "", "move 0; yes; ret"));
        Check.due("call", bench.run(7, 0, "wide:-3:-4"), "DONE gas 3 18446744073709551613:18446744073709551612 1");
        int bad = ResourceLedger.BAD;
        Check.due("told -1", x.told(-1, 0), bad);
        Check.due("told 1", x.told(1, 0), bad);
        Check.due("told what -1", x.told(0, -1), bad);
        Check.due("told what 4", x.told(0, 4), bad);
        Check.due("told results", x.told(0, 2), 2);
        Check.due("told no place", x.told(0, 3), 0);
        Check.due("code -1", x.code(-1), 0);
        Check.due("code 1", x.code(1), 0);
        Check.due("lower half", x.result(0, 0, 0), -4);
        Check.due("upper half", x.result(0, 0, 1), -3);
        Check.due("type", x.result(0, 0, 2), 4);
        Check.due("truth", x.result(0, 1, 0), 1);
        Check.due("truth's upper half", x.result(0, 1, 1), 0);
        Check.due("truth's type", x.result(0, 1, 2), 1);
        Check.due("result what 3", x.result(0, 0, 3), 0);
        Check.due("result what -1", x.result(0, 0, -1), 0);
        Check.due("result 2", x.result(0, 2, 0), 0);
        Check.due("result -1", x.result(0, -1, 0), 0);
        Check.due("result of 1", x.result(1, 0, 0), 0);
        Check.due("result of -1", x.result(-1, 0, 0), 0);
        x.call(1, 99, 10, 7, 0);
        Check.due("bad what before not done", x.told(1, 4), bad);
        Check.due("not done", x.told(1, 1), ResourceLedger.NO);
        for (int what : new int[] {-1, 2, 9}) {
            Check.due("account " + what, x.account(1, what), 0);
        }
        Check.due("account of none", x.account(99, 0), 0);
        Check.due("coins -1", x.coins(-1), 0);
        Check.due("coins 4", x.coins(4), 0);
        Check.due("places -1", x.places(-1), bad);
        Check.due("places 4", x.places(4), bad);
        Check.due("root -1", x.root(-1), 0);
        Check.due("root 4", x.root(4), 0);
        Check.due("byteOf before asking", x.byteOf(0), bad);
    }
}
