import java.nio.ByteBuffer;
import java.util.ArrayList;
import java.util.List;

/**
 * Part 6: KEYS, VALUES, the DIGEST's filling and the levels of the HASH, at their edges, against
 * the model of the document's words. Sentences of the document stand in quotes.
 */
final class RootEdgesTest {
    private RootEdgesTest() {
    }

    public static void main(String[] args) {
        noKeysOneKeyMore();
        addresses();
        moduleLengths();
        moduleNumbers();
        resourceBytes();
        resourceKeys();
        allPlaces();
        Check.end();
    }

    private static List<RootModel.Place> accounts(ResourceLedger x, long... addresses) {
        List<RootModel.Place> places = new ArrayList<>();
        for (long a : addresses) {
            places.add(RootModel.account(a, x.account(a, 0), x.account(a, 1)));
        }
        return places;
    }

    private static void due(String what, ResourceLedger x, List<RootModel.Place> places) {
        ByteBuffer want = new RootModel().root(places);
        Check.due(what + ": places", x.places(0), places.size());
        for (int i = 0; i < 4; i++) {
            Check.due(what + ": root " + i, x.root(i), want.getLong(8 * i));
        }
    }

    /** "without keys 32 bytes 0; with one the DIGEST of a byte 0, the key and its value; with more the digest of a byte 1, .." */
    private static void noKeysOneKeyMore() {
        ResourceLedger x = new ResourceLedger(1);
        due("no keys", x, new ArrayList<>());
        // Also when something was done, and all of it REFUSED.
        x.call(1, 0, 10, 0, 0);
        Check.due("REFUSED", x.execute(), 0);
        due("no keys behind a block", x, new ArrayList<>());
        x.mint(1, 0);
        due("one key", x, accounts(x, 1));
        x.mint(1, 5);
        due("its value", x, accounts(x, 1));
        long[] some = new long[12];
        some[0] = 1;
        for (int n = 1; n < some.length; n++) {
            some[n] = n + 1;
            x.mint(n + 1, n);
            due((n + 1) + " keys", x, accounts(x, java.util.Arrays.copyOf(some, n + 1)));
        }
    }

    /** "a byte 1 and its address (8 bytes)": also those with the highest bit; "the balance and the sequence (16 bytes)" */
    private static void addresses() {
        long[] some = {0, 1, -1, Long.MIN_VALUE, Long.MAX_VALUE, 255, 256, 1L << 32, -1L << 32};
        ResourceLedger x = new ResourceLedger(1);
        long coins = 1;
        for (long a : some) {
            x.mint(a, coins);
            coins *= 200;
        }
        due("addresses", x, accounts(x, some));
        for (int i = 0; i < 3; i++) {
            x.begin();
            x.publish(1L << 32, i, 20);
            x.execute();
            due("sequence " + (i + 1), x, accounts(x, some));
        }
        ResourceLedger all = new ResourceLedger(1);
        all.mint(7, (1L << 62) - 1);
        due("the greatest balance", all, accounts(all, 7));
    }

    /** "as many bytes 0 as bring it to 56 bytes behind a multiple of 64": modules of all lengths about these. */
    private static void moduleLengths() {
        for (int length = 18; length <= 200; length++) {
            Bench bench = new Bench();
            byte[] module = new Assembly(7).function(0, "", "", "", "nothing; ".repeat(length - 18) + "ret").toBytes();
            Check.due("its length", module.length, length);
            Check.due("taken", bench.publish(module), "DONE");
            List<RootModel.Place> places = accounts(bench.ledger, 1, 2);
            places.add(RootModel.module(module));
            due("a module of " + length, bench.ledger, places);
        }
        for (int length : new int[] {1023, 1024, 1025, 2047, 2048}) {
            Bench bench = new Bench();
            int half = (length - 24) / 2;
            byte[] module = new Assembly(7).function(0, "", "", "", "nothing; ".repeat(half) + "ret")
                .function(0, "", "", "", "nothing; ".repeat(length - 25 - half) + "ret").toBytes();
            Check.due("its length", module.length, length);
            Check.due("taken", bench.publish(module), "DONE");
            List<RootModel.Place> places = accounts(bench.ledger, 1, 2);
            places.add(RootModel.module(module));
            due("a module of " + length, bench.ledger, places);
        }
    }

    /** "of a module that of a byte 2 and its SHORT" */
    private static void moduleNumbers() {
        Bench bench = new Bench();
        List<RootModel.Place> modules = new ArrayList<>();
        for (int number : new int[] {1, 255, 256, 257, 32767, 32768, 65279, 65535}) {
            byte[] module = new Assembly(number).toBytes();
            Check.due("taken", bench.publish(module), "DONE");
            modules.add(RootModel.module(module));
            List<RootModel.Place> places = accounts(bench.ledger, 1, 2);
            places.addAll(modules);
            due("module " + number, bench.ledger, places);
        }
    }

    /** "a truth 0 or 1, a byte, 8 bytes, 16 bytes, 8 bytes for an address; a structure's fields ..; a vector's length as a SHORT and its elements" */
    private static void resourceBytes() {
        String[][] rows = {{"truth", "yes; ", "01"}, {"truth", "no; ", "00"}, {"byte", "byte 255; ", "ff"},
            {"long", "long -2; ", "fffffffffffffffe"}, {"wide", "wide 1 -2; ", "0000000000000001fffffffffffffffe"},
            {"wide", "wide -1 0; ", "ffffffffffffffff0000000000000000"}, {"addr", "addr -9; ", "fffffffffffffff7"},
            {"*long", "vector 0 0; ", "0000"}, {"*long", "long 1; long 2; vector 0 2; ", "000200000000000000010000000000000002"},
            {"*truth", "yes; no; yes; vector 1 3; ", "0003010001"}, {"**truth", "vector 1 0; no; vector 1 1; vector 2 2; ", "00020000000100"},
            {"S1", "byte 7; no; pack 1; ", "0700"}, {"*S1", "byte 7; no; pack 1; byte 8; yes; pack 1; vector 3 2; ", "000207000801"},
            {"byte S1 byte", "byte 1; byte 2; yes; pack 1; byte 3; ", "01020103"},
            {"*truth", "yes; ".repeat(62) + "vector 1 62; ", "003e" + "01".repeat(62)},
            {"*wide", "wide -1 -1; ".repeat(62) + "vector 4 62; ", "003e" + "ff".repeat(992)}};
        for (String[] row : rows) {
            Bench bench = new Bench();
            byte[] module = new Assembly(7).structure(12, row[0]).structure(7, "byte truth")
                .element("long").element("truth").element("*truth").element("S1").element("wide")
                .function(6, "", "", "", row[1] + "pack 0; put 0; ret").toBytes();
            Check.due("taken", bench.publish(module), "DONE");
            Check.due("put " + row[0], bench.run(7, 0).startsWith("DONE"), true);
            byte[] bytes = new byte[row[2].length() / 2];
            for (int i = 0; i < bytes.length; i++) {
                bytes[i] = (byte) Integer.parseInt(row[2].substring(2 * i, 2 * i + 2), 16);
            }
            Check.due("bytes of " + row[0], bench.ledger.resource(1, 7, 0), bytes.length);
            for (int i = 0; i < bytes.length; i += bytes.length < 100 ? 1 : 31) {
                Check.due("byte " + i + " of " + row[0], bench.ledger.byteOf(i), bytes[i] & 255);
            }
            List<RootModel.Place> places = accounts(bench.ledger, 1, 2);
            places.add(RootModel.module(module));
            places.add(RootModel.resource(1, 7, 0, bytes));
            due("a resource of " + row[0], bench.ledger, places);
        }
    }

    /** "of a resource that of a byte 3, its address, the module's SHORT, the structure's byte" */
    private static void resourceKeys() {
        Bench bench = new Bench();
        Assembly module = new Assembly(65279);
        for (int s = 0; s < 32; s++) {
            module.structure(12, "byte");
        }
        for (int s = 0; s < 32; s++) {
            module.function(6, "", "", "", "byte " + s + "; pack " + s + "; put " + s + "; ret");
        }
        Check.due("taken", bench.publish(module), "DONE");
        List<RootModel.Place> resources = new ArrayList<>();
        long[] senders = {1, 2, -1};
        bench.ledger.mint(-1, 100000);
        for (int s : new int[] {0, 1, 15, 30, 31}) {
            for (long sender : senders) {
                Check.due("put", bench.run(sender, 100, 65279, s).startsWith("DONE"), true);
                resources.add(RootModel.resource(sender, 65279, s, new byte[] {(byte) s}));
            }
            List<RootModel.Place> places = accounts(bench.ledger, senders);
            places.add(RootModel.module(module.toBytes()));
            places.addAll(resources);
            due("resources of structure " + s, bench.ledger, places);
        }
    }

    /** 256 places, the most that there are. */
    private static void allPlaces() {
        ResourceLedger x = new ResourceLedger(1);
        long[] all = new long[256];
        List<RootModel.Place> places = new ArrayList<>();
        for (int i = 0; i < 256; i++) {
            all[i] = i * 0x9e3779b97f4a7c15L;
            x.mint(all[i], i);
            // Balances are known: asking for them would take more calls than an object is used for.
            places.add(RootModel.account(all[i], i, 0));
            if (i == 254) {
                due("255 places", x, places);
            }
        }
        due("256 places", x, places);
        x.mint(3, 5);
        due("no 257th", x, places);
    }
}
