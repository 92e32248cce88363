/** Blocks, refusals, publications, the coin, resources, places, and what is undone. */
final class LedgerTest {
    /** Of {@link #bank()}: what the coin's functions are there, behind its own ones. */
    private static final int OWN = 9;

    private LedgerTest() {
    }

    public static void main(String[] args) {
        refusals();
        publications();
        eightModules();
        noPlaceForModule();
        withdrawing();
        splitting();
        undone();
        resources();
        bytes();
        sizes();
        twentyFourPlaces();
        allPlaces();
        weaves();
        Check.end();
    }

    private static void refusals() {
        Bench bench = new Bench();
        ResourceLedger x = bench.ledger;
        x.mint(3, 100);
        bench.publish(new Assembly(7).structure(7, "long").element("long")
            .function(2, "long truth", "long", "", "move 0; ret")
            .function(1, "", "", "", "ret")
            .function(2, "", "*long", "", "vector 0 0; ret")
            .function(2, "S0", "S0", "", "move 0; ret")
            .function(2, "", "S0", "", "long 1; pack 0; ret")
            .function(2, "&long", "&long", "", "move 0; ret")
            .function(3, "", "truth byte long wide addr", "", "yes; byte 1; long 1; wide 1 1; sender; ret"));
        long burned = x.coins(1);
        Check.due("no account", bench.run(9, 20000, 7, 0), "REFUSED 1 gas 0");
        Check.due("no account by it", x.places(3), 3);
        x.begin();
        x.call(1, 0, 100, 99, 0);
        x.call(1, 2, 100, 7, 1);
        x.publish(1, 0, 100);
        x.publish(9, 0, 100);
        Check.due("none is done", x.execute(), 0);
        Check.due("its sequence is another", bench.tell(0) + ", " + bench.tell(1), "REFUSED 2 gas 0, REFUSED 2 gas 0");
        Check.due("a publication's sequence", bench.tell(2), "REFUSED 2 gas 0");
        Check.due("a publication without account", bench.tell(3), "REFUSED 1 gas 0");
        Check.due("too little", bench.run(3, 101, 99, 0), "REFUSED 3 gas 0");
        Check.due("no module", bench.run(3, 100, 99, 0), "REFUSED 4 gas 0");
        Check.due("no function", bench.run(7, 7), "REFUSED 5 gas 0");
        Check.due("not entry", bench.run(7, 1, "long:1"), "REFUSED 6 gas 0");
        for (int f = 0; f < 6; f++) {
            Check.due("the coin's are not entry", bench.run(0, f), "REFUSED 6 gas 0");
        }
        Check.due("the coin has six", bench.run(0, 6), "REFUSED 5 gas 0");
        Check.due("no arguments", bench.run(7, 0), "REFUSED 7 gas 0");
        Check.due("too few", bench.run(7, 0, "long:1"), "REFUSED 7 gas 0");
        Check.due("too many", bench.run(7, 0, "long:1", "truth:1", "long:1"), "REFUSED 7 gas 0");
        Check.due("other types", bench.run(7, 0, "truth:1", "long:1"), "REFUSED 7 gas 0");
        Check.due("a byte for a long", bench.run(7, 0, "byte:1", "truth:1"), "REFUSED 7 gas 0");
        Check.due("gives a vector", bench.run(7, 2), "REFUSED 8 gas 0");
        Check.due("gives a structure", bench.run(7, 4), "REFUSED 8 gas 0");
        Check.due("7 before 8", bench.run(7, 3, "long:1"), "REFUSED 7 gas 0");
        Check.due("a reference", bench.run(7, 5, "long:1"), "REFUSED 7 gas 0");
        Check.due("nothing changed", x.account(1, 1) + " " + x.account(3, 0) + " " + x.coins(1), "1 100 " + burned);
        Check.due("all plain types", bench.run(7, 6), "DONE gas 6 1 1 1 1:1 1");
        Check.due("just enough", bench.run(3, 100, 7, 6), "DONE gas 6 1 1 1 1:1 3");
        Check.due("what is left comes back", x.account(3, 0) + " " + x.account(3, 1), "94 1");
    }

    private static void publications() {
        Bench bench = new Bench();
        ResourceLedger x = bench.ledger;
        x.publish(1, 0, 10);
        bench.tape(new Assembly(7).toBytes());
        x.publish(1, 1, 10);
        bench.tape(new Assembly(7).toBytes());
        x.publish(1, 2, 11);
        bench.tape(Assembly.bytes(82, 76, 77, 49, 0, 9, 0, 0, 0, 0, 0, 1, 1, 1, 1, 1));
        x.publish(1, 3, 11);
        bench.tape(Assembly.bytes(82, 76, 77, 49, 0, 9, 0, 0, 0, 0, 0, 1, 1, 1, 1, 1, 1));
        x.publish(1, 4, 100);
        Check.due("one is done", x.execute(), 1);
        Check.due("an empty tape", bench.tell(0) + " " + x.told(0, 3), "FAULTY 2 gas 10 0");
        Check.due("more than the limit", bench.tell(1), "ERROR 5 gas 10");
        Check.due("11 bytes", bench.tell(2), "DONE gas 11");
        Check.due("16 bytes", bench.tell(3) + " " + x.told(3, 3), "FAULTY 6 gas 11 11");
        Check.due("17 bytes", bench.tell(4) + " " + x.told(4, 3), "FAULTY 6 gas 12 11");
        Check.due("burned", x.coins(1), 54);
        Check.due("sequence", x.account(1, 1), 5);
        Check.due("balance", x.account(1, 0), 100_000_000L - 54);
        Check.due("one module", x.places(1), 1);
        Check.due("three places", x.places(0), 3);
    }

    private static void eightModules() {
        Bench bench = new Bench();
        for (int i = 1; i <= 8; i++) {
            Check.due("module", bench.publish(new Assembly(1000 * i).function(2, "", "long", "", "long " + i + "; ret")), "DONE");
        }
        Check.due("a ninth", bench.publish(new Assembly(5)), "ERROR 4");
        Check.due("a faulty ninth", bench.publish(Assembly.bytes(1)), "ERROR 4");
        Check.due("its gas", bench.ledger.told(0, 1), 11);
        bench.tape(new Assembly(5).toBytes());
        bench.ledger.begin();
        bench.ledger.publish(1, 10, 10);
        bench.ledger.execute();
        Check.due("too dear before that", bench.tell(0), "ERROR 5 gas 10");
        Check.due("eight", bench.ledger.places(1), 8);
        for (int i = 1; i <= 8; i++) {
            Check.due("each is called", bench.run(1000 * i, 0), "DONE gas 2 " + i);
        }
    }

    private static void noPlaceForModule() {
        Bench bench = new Bench();
        for (int i = 0; i < 253; i++) {
            bench.ledger.mint(1000 + i, 1);
        }
        Check.due("the last place", bench.publish(new Assembly(7)), "DONE");
        Check.due("256", bench.ledger.places(0), 256);
        Check.due("a faulty one", bench.publish(new Assembly(7)), "FAULTY 21 4");
        Check.due("no place", bench.publish(new Assembly(8)), "ERROR 4");
        Check.due("still 256", bench.ledger.places(0), 256);
        Check.due("no account either", bench.ledger.mint(5, 0), false);
    }

    /**
     * Structure 0 is a vault of a coin and a long, 1 the coin. Functions: 0 fills a vault, 1 empties
     * it into the sender's account, 2 pays, 3 tells a balance, 4 tells what is in a vault, 5 splits
     * and joins, 6 pays and aborts, 7 pays into the vault of the sender, 8 drops a long.
     */
    private static Assembly bank() {
        return new Assembly(6).structure(12, "S1 long").coin(1)
            .function(6, "long", "", "", "copy 0; call " + OWN + "; move 0; pack 0; put 0; ret")
            .function(6, "", "long", "S1 long",
                "sender; take 0; unpack 0; store 1; store 0; sender; move 0; call " + (OWN + 1) + "; move 1; ret")
            .function(2, "addr long", "", "", "move 0; move 1; call " + OWN + "; call " + (OWN + 1) + "; ret")
            .function(2, "addr", "long", "", "move 0; call " + (OWN + 5) + "; ret")
            .function(6, "addr", "long", "", "move 0; borrow 0; field 0 0; call " + (OWN + 2) + "; ret")
            .function(2, "long long", "long long", "S1 S1",
                "move 0; call " + OWN + "; move 1; call " + (OWN + 4) + "; store 3; store 2; lend 2; call " + (OWN + 2)
                + "; lend 3; call " + (OWN + 2) + "; sender; move 2; move 3; call " + (OWN + 3) + "; call " + (OWN + 1)
                + "; ret")
            .function(2, "addr long", "", "", "move 0; move 1; call " + OWN + "; call " + (OWN + 1) + "; long 8; abort")
            .function(6, "long", "", "S1 long",
                "sender; take 0; unpack 0; store 2; move 0; call " + OWN + "; call " + (OWN + 3)
                + "; move 2; pack 0; put 0; ret")
            .function(2, "long", "", "", "move 0; pop; ret");
    }

    private static Bench withBank() {
        Bench bench = new Bench();
        Check.due("bank", bench.publish(bank()), "DONE");
        return bench;
    }

    private static void whole(Bench bench, String what) {
        ResourceLedger x = bench.ledger;
        Check.due(what + ": all coins are somewhere", x.coins(2) + x.coins(3), x.coins(0) - x.coins(1));
        Check.due(what + ": slips", x.slips(), 0);
    }

    private static void withdrawing() {
        Bench bench = withBank();
        ResourceLedger x = bench.ledger;
        // copy 2, call 6, move 1, pack 1, put 1 + 10 + 4, ret 1.
        Check.due("fill", bench.run(6, 0, "long:500"), "DONE gas 26");
        Check.due("in resources", x.coins(3), 500);
        whole(bench, "fill");
        Check.due("in the vault", bench.run(2, 1000, 6, 4, "addr:1"), "DONE gas 20 500");
        Check.due("another one's", bench.run(6, 4, "addr:2"), "ERROR 3 gas 2");
        Check.due("a second vault", bench.run(6, 0, "long:1"), "ERROR 3 gas 11");
        Check.due("pay into it", bench.run(6, 7, "long:7"), "DONE gas 45");
        Check.due("in resources then", x.coins(3), 507);
        long before = x.account(1, 0);
        Check.due("empty it", bench.run(6, 1), "DONE gas 25 500");
        Check.due("it came back", x.account(1, 0), before + 507 - 25);
        Check.due("none in resources", x.coins(3), 0);
        Check.due("no resource", x.places(2), 0);
        whole(bench, "empty");
        // A new account comes to be, also by a coin of nothing.
        Check.due("pay", bench.run(6, 2, "addr:50", "long:3"), "DONE gas 15");
        Check.due("pay nothing", bench.run(6, 2, "addr:51", "long:0"), "DONE gas 15");
        Check.due("accounts", x.places(3) + " " + x.account(50, 0) + " " + x.account(50, 1) + " " + x.account(51, 0), "4 3 0 0");
        Check.due("balance of another", bench.run(6, 3, "addr:50"), "DONE gas 8 3");
        Check.due("balance of none", bench.run(6, 3, "addr:52"), "DONE gas 8 0");
        Check.due("no account by it", x.places(3), 4);
        // The limit is not there to be spent.
        x.mint(3, 1000);
        Check.due("one's own balance", bench.run(3, 400, 6, 3, "addr:3"), "DONE gas 8 600");
        Check.due("too much", bench.run(3, 400, 6, 2, "addr:50", "long:593"), "ABORTED 1 gas 8");
        Check.due("far too much", bench.run(3, 400, 6, 2, "addr:50", "long:-1"), "ABORTED 1 gas 8");
        Check.due("just enough", bench.run(3, 400, 6, 2, "addr:50", "long:576"), "DONE gas 15");
        Check.due("what is left", x.account(3, 0), 1000 - 8 - 8 - 8 - 576 - 15);
        Check.due("to oneself", bench.run(3, 100, 6, 2, "addr:3", "long:10"), "DONE gas 15");
        Check.due("what is left then", x.account(3, 0), 1000 - 8 - 8 - 8 - 576 - 15 - 15);
        whole(bench, "pay");
    }

    private static void splitting() {
        Bench bench = withBank();
        Check.due("split", bench.run(6, 5, "long:100", "long:30"), "DONE gas 46 70 30");
        Check.due("split all", bench.run(6, 5, "long:100", "long:100"), "DONE gas 46 0 100");
        Check.due("split too much", bench.run(6, 5, "long:100", "long:101"), "ABORTED 2 gas 14");
        Check.due("far too much", bench.run(6, 5, "long:100", "long:-1"), "ABORTED 2 gas 14");
        whole(bench, "split");
    }

    private static void undone() {
        Bench bench = withBank();
        ResourceLedger x = bench.ledger;
        long balance = x.account(1, 0);
        Check.due("aborted", bench.run(6, 6, "addr:60", "long:9"), "ABORTED 8 gas 16");
        Check.due("no account", x.places(3), 2);
        Check.due("balance less by gas", x.account(1, 0), balance - 16);
        Check.due("no results", x.told(0, 2), 0);
        Check.due("out of gas", bench.run(1, 14, 6, 2, "addr:60", "long:9"), "ERROR 5 gas 14");
        Check.due("no account then", x.places(3), 2);
        Check.due("balance less by the limit", x.account(1, 0), balance - 30);
        Check.due("sequence", x.account(1, 1), 3);
        whole(bench, "undone");
    }

    /** 0 puts, 1 adds to one's own or another's, 2 tells, 3 takes, 4 has, 5 puts, takes and puts. */
    private static Assembly counter(int number) {
        return new Assembly(number).structure(15, "long")
            .function(6, "long", "", "", "move 0; pack 0; put 0; ret")
            .function(6, "addr long", "", "&!long",
                "move 0; borrow! 0; field! 0 0; store 2; move 1; copy 2; read; add; move 2; write; ret")
            .function(6, "addr", "long", "", "move 0; borrow 0; field 0 0; read; ret")
            .function(6, "addr", "long", "", "move 0; take 0; unpack 0; ret")
            .function(6, "addr", "truth", "", "move 0; has 0; ret")
            .function(6, "", "truth", "",
                "long 1; pack 0; put 0; sender; take 0; pop; long 2; pack 0; put 0; sender; has 0; ret");
    }

    private static void resources() {
        Bench bench = new Bench();
        ResourceLedger x = bench.ledger;
        bench.publish(counter(7));
        bench.publish(counter(8));
        Check.due("none", bench.run(7, 4, "addr:1"), "DONE gas 13 0");
        Check.due("borrow none", bench.run(7, 2, "addr:1"), "ERROR 3 gas 2");
        Check.due("write none", bench.run(7, 1, "addr:1", "long:1"), "ERROR 3 gas 2");
        Check.due("take none", bench.run(7, 3, "addr:1"), "ERROR 3 gas 2");
        Check.due("put", bench.run(7, 0, "long:5"), "DONE gas 16");
        Check.due("put again", bench.run(7, 0, "long:6"), "ERROR 3 gas 3");
        Check.due("there", bench.run(7, 4, "addr:1"), "DONE gas 13 1");
        Check.due("not of another", bench.run(7, 4, "addr:2"), "DONE gas 13 0");
        Check.due("not of another module", bench.run(8, 4, "addr:1"), "DONE gas 13 0");
        Check.due("put there, too", bench.run(8, 0, "long:7"), "DONE gas 16");
        Check.due("another sender adds", bench.run(2, 100, 7, 1, "addr:1", "long:37"), "DONE gas 23");
        Check.due("read", bench.run(7, 2, "addr:1"), "DONE gas 16 42");
        Check.due("the other module's", bench.run(8, 2, "addr:1"), "DONE gas 16 7");
        Check.due("too much is undone", bench.run(7, 1, "addr:1", "long:-1"), "ERROR 1 gas 20");
        Check.due("read then", bench.run(7, 2, "addr:1"), "DONE gas 16 42");
        Check.due("places", x.places(0) + " " + x.places(1) + " " + x.places(2) + " " + x.places(3), "6 2 2 2");
        Check.due("another sender takes", bench.run(2, 100, 7, 3, "addr:1"), "DONE gas 14 42");
        Check.due("gone", bench.run(7, 4, "addr:1"), "DONE gas 13 0");
        Check.due("resources", x.places(2), 1);
        Check.due("put, take, put", bench.run(7, 5), "DONE gas 56 1");
        Check.due("the latter", bench.run(7, 2, "addr:1"), "DONE gas 16 2");
        Check.due("slips", x.slips(), 0);
        // Within one block each sees what those before it did.
        x.begin();
        for (int i = 0; i < 10; i++) {
            x.call(1 + i % 2, x.account(1 + i % 2, 1) + i / 2, 100, 7, 1);
            bench.argue("addr:1");
            bench.argue("long:" + (1 << i));
        }
        Check.due("ten", x.execute(), 10);
        Check.due("all added", bench.run(7, 2, "addr:1"), "DONE gas 16 1025");
    }

    private static void bytes() {
        Bench bench = new Bench();
        ResourceLedger x = bench.ledger;
        bench.publish(new Assembly(300).structure(7, "byte truth").structure(12, "truth byte long wide addr S0 *S0 **byte S2")
            .foreignStructure(0, 0, 4).element("S0").element("byte").element("*byte")
            .foreignFunction(0, 0, 1, "long", "S2").foreignFunction(0, 1, 1, "addr S2", "")
            .function(6, "", "", "", "yes; byte 200; long -2; wide 1 -3; addr -4; byte 9; no; pack 0; "
                + "byte 1; yes; pack 0; byte 2; no; pack 0; vector 0 2; "
                + "byte 5; vector 1 1; vector 1 0; byte 6; byte 7; vector 1 2; vector 2 3; long 77; call 2; pack 1; put 1; ret")
            .function(6, "", "", "", "sender; borrow! 1; field! 1 6; last 0; pop; ret"));
        Check.due("before", x.resource(1, 300, 1), ResourceLedger.NO);
        Check.due("byte before", x.byteOf(0), ResourceLedger.BAD);
        Check.due("put", bench.run(300, 0).startsWith("DONE"), true);
        String hex = "01" + "c8" + "fffffffffffffffe" + "0000000000000001fffffffffffffffd" + "fffffffffffffffc" + "0900"
            + "0002" + "0101" + "0200" + "0003" + "000105" + "0000" + "00020607" + "000000000000004d";
        Check.due("length", x.resource(1, 300, 1), hex.length() / 2);
        Check.due("bytes", read(x), hex);
        Check.due("byte -1", x.byteOf(-1), ResourceLedger.BAD);
        Check.due("byte beyond", x.byteOf(hex.length() / 2), ResourceLedger.BAD);
        Check.due("coin", x.coins(3), 77);
        Check.due("drop one", bench.run(300, 1).startsWith("DONE"), true);
        Check.due("as it was then", read(x), hex);
        Check.due("length now", x.resource(1, 300, 1), hex.length() / 2 - 2);
        Check.due("bytes now", read(x), hex.replace("00020101" + "0200", "00010101"));
        for (long address : new long[] {2, -1}) {
            Check.due("of another", x.resource(address, 300, 1), ResourceLedger.NO);
            Check.due("no bytes", x.byteOf(0), ResourceLedger.BAD);
        }
        Check.due("of another module", x.resource(1, 0, 1), ResourceLedger.NO);
        Check.due("of another structure", x.resource(1, 300, 0), ResourceLedger.NO);
        Check.due("of no structure", x.resource(1, 300, -1), ResourceLedger.NO);
        Check.due("of no module", x.resource(1, -1, 1), ResourceLedger.NO);
    }

    private static String read(ResourceLedger x) {
        StringBuilder text = new StringBuilder();
        for (int i = 0; i < 2000; i++) {
            int b = x.byteOf(i);
            if (b < 0) {
                break;
            }
            text.append(String.format("%02x", b));
        }
        return text.toString();
    }

    /** A resource with so many wides in a vector: its size is two more. */
    private static void sizes() {
        Bench bench = new Bench();
        ResourceLedger x = bench.ledger;
        bench.publish(new Assembly(7).structure(12, "*wide").element("wide")
            .function(6, "", "", "", "wide -1 -1; ".repeat(62) + "vector 0 62; pack 0; put 0; ret")
            .function(6, "", "", "", "sender; borrow! 0; field! 0 0; wide 1 2; push 0; ret")
            .function(6, "", "", "&!S0", "sender; borrow! 0; store 0; copy 0; field! 0 0; wide 1 2; push 0; "
                + "copy 0; field! 0 0; last 0; pop; ret")
            .function(6, "", "wide", "", "sender; borrow! 0; field! 0 0; last 0; ret"));
        // 62 wides, 1 + 62 for the vector, 1 for packing, 1 + 10 + 64 for putting, 1 for returning.
        Check.due("64", bench.run(7, 0), "DONE gas 202");
        Check.due("its bytes", x.resource(1, 7, 0), 2 + 16 * 62);
        Check.due("last byte", x.byteOf(993), 255);
        Check.due("65", bench.run(7, 1), "ERROR 4 gas 16");
        Check.due("65 for a while", bench.run(7, 2), "DONE gas 24");
        Check.due("it stayed", x.resource(1, 7, 0), 2 + 16 * 62);
        Check.due("one less", bench.run(7, 3).startsWith("DONE"), true);
        Check.due("64 again", bench.run(7, 1), "DONE gas 16");
        Check.due("slips", x.slips(), 0);
    }

    /** Sender and module are two; then accounts, resources and modules, each counted once. */
    private static void twentyFourPlaces() {
        Bench bench = new Bench();
        bench.publish(new Assembly(5).function(1, "", "", "", "ret"));
        bench.publish(new Assembly(9).function(1, "", "", "", "ret"));
        // Own functions are 0 to 4: 5 tells a balance, 6 is module 5's, 7 module 9's.
        StringBuilder most = new StringBuilder("sender; call 5; pop; sender; has 0; pop; call 6; call 6; ");
        for (int i = 0; i < 20; i++) {
            // Ten accounts and ten resources, each twice.
            String row = "addr " + (100 + i) + (i % 2 == 0 ? "; call 5; pop; " : "; has 0; pop; ");
            most.append(row).append(row);
        }
        bench.publish(new Assembly(7).structure(15, "long").foreignFunction(0, 5, 1, "addr", "long")
            .foreignFunction(5, 0, 1, "", "").foreignFunction(9, 0, 1, "", "")
            .function(6, "", "", "", most + "ret")
            .function(6, "", "", "", most + "long 1; pack 0; put 0; sender; borrow 0; pop; call 6; ret")
            .function(6, "", "", "", "call 0; addr 100; has 0; pop; ret")
            .function(6, "", "", "", "call 0; addr 101; call 5; pop; ret")
            .function(6, "", "", "", "call 0; call 7; ret"));
        // Sender, module; the sender's resource, module 5, and twenty more.
        Check.due("24", bench.run(7, 0).startsWith("DONE"), true);
        int used = bench.ledger.told(0, 1);
        Check.due("no 25th", bench.run(7, 1).startsWith("DONE"), true);
        // The call's 6, and behind it what was there before and the instruction's 1 are paid.
        Check.due("a resource as the 25th", bench.run(7, 2), "ERROR 4 gas " + (6 + used + 2));
        Check.due("an account as the 25th", bench.run(7, 3), "ERROR 4 gas " + (6 + used + 2));
        Check.due("a module as the 25th", bench.run(7, 4), "ERROR 4 gas " + (6 + used + 1));
    }

    private static void allPlaces() {
        Bench bench = withBank();
        ResourceLedger x = bench.ledger;
        for (int i = 0; i < 252; i++) {
            x.mint(1000 + i, 1);
        }
        Check.due("255 places", x.places(0), 255);
        Check.due("the 256th", bench.run(6, 0, "long:5"), "DONE gas 26");
        Check.due("a 257th account", bench.run(6, 2, "addr:50", "long:5"), "ERROR 4 gas 15");
        Check.due("a 257th resource", bench.run(2, 100, 6, 0, "long:5"), "ERROR 4 gas 26");
        Check.due("an old account", bench.run(6, 2, "addr:1000", "long:5"), "DONE gas 15");
        Check.due("256 places", x.places(0), 256);
        Check.due("one goes", bench.run(6, 1), "DONE gas 25 5");
        Check.due("one comes", bench.run(6, 2, "addr:50", "long:5"), "DONE gas 15");
        Check.due("256 again", x.places(0) + " " + x.places(1) + " " + x.places(2) + " " + x.places(3), "256 1 0 255");
        whole(bench, "all places");
    }

    /** Whatever the workers and the weave: the same answers. */
    private static void weaves() {
        String first = "";
        for (int workers = 0; workers < 10; workers++) {
            ResourceLedger x = new ResourceLedger(workers);
            for (int i = 0; i < workers; i++) {
                x.weave(0x123456789abcdefL * (workers + i));
            }
            x.mint(1, 1000000);
            x.mint(2, 1000000);
            type(x, counter(7).toBytes());
            x.publish(1, 0, 1000);
            x.call(1, 1, 100, 7, 0);
            x.argument(3, 0, 1);
            for (int i = 0; i < 20; i++) {
                x.call(1 + i % 2, i / 2 + (i % 2 == 0 ? 2 : 0), 100, 7, i % 3 == 0 ? 2 : 1);
                x.argument(5, 0, 1);
                if (i % 3 != 0) {
                    x.argument(3, 0, i);
                }
            }
            StringBuilder all = new StringBuilder().append(x.execute());
            for (int t = 0; t < 22; t++) {
                all.append(' ').append(x.told(t, 0)).append(' ').append(x.told(t, 1)).append(' ').append(x.result(t, 0, 0));
            }
            all.append(' ').append(x.root(0)).append(' ').append(x.root(3));
            first = first.isEmpty() ? all.toString() : first;
            Check.due("workers " + workers, all.toString(), first);
        }
        Check.due("all were done", first.startsWith("22 "), true);
    }

    private static void type(ResourceLedger x, byte[] bytes) {
        for (byte b : bytes) {
            x.type(b, 1);
        }
    }
}
