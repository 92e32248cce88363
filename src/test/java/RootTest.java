import java.nio.ByteBuffer;
import java.security.MessageDigest;
import java.security.NoSuchAlgorithmException;
import java.util.ArrayList;
import java.util.List;

/** Promise 19: the root, reckoned here by the document's words from what the ledger tells. */
final class RootTest {
    private final Bench bench = new Bench();
    private final List<Long> addresses = new ArrayList<>(List.of(1L, 2L));
    private final List<byte[]> modules = new ArrayList<>();

    private RootTest() {
    }

    public static void main(String[] args) throws NoSuchAlgorithmException {
        Check.due("no places", new ResourceLedger(1).root(0), 0);
        ResourceLedger one = new ResourceLedger(1);
        one.mint(-5, 77);
        byte[] leaf = digest(bytes(0), digest(bytes(1), longs(-5)), digest(longs(77, 0)));
        for (int i = 0; i < 4; i++) {
            Check.due("one account", one.root(i), ByteBuffer.wrap(leaf).getLong(8 * i));
        }
        new RootTest().grow();
        Check.end();
    }

    private void grow() throws NoSuchAlgorithmException {
        look("two accounts");
        publish(new Assembly(300).structure(12, "long *byte").element("byte")
            .function(6, "long byte", "", "", "move 0; copy 1; move 1; vector 0 2; pack 0; put 0; ret")
            .function(6, "", "", "", "sender; take 0; unpack 0; pop; pop; ret")
            .function(6, "byte", "", "", "sender; borrow! 0; field! 0 1; move 0; push 0; ret"));
        look("a module");
        publish(new Assembly(7).coin(0).function(2, "addr long", "", "", "move 0; move 1; call 1; call 2; ret"));
        look("two modules");
        bench.run(300, 0, "long:5", "byte:9");
        look("a resource");
        bench.run(2, 500, 300, 0, "long:-1", "byte:255");
        look("two resources");
        bench.run(300, 2, "byte:7");
        look("one is changed");
        bench.run(300, 0, "long:5", "byte:9");
        look("an error: just balance and sequence");
        bench.run(7, 0, "addr:9", "long:50");
        addresses.add(9L);
        look("a new account");
        bench.run(2, 500, 300, 1);
        look("a resource less");
        bench.run(99, 0);
        look("a refused one");
        for (long a = 1000; a < 1240; a++) {
            bench.ledger.mint(a * 0x9e3779b97f4a7c15L, a);
            addresses.add(a * 0x9e3779b97f4a7c15L);
            if (a % 40 == 0) {
                look("accounts");
            }
        }
        look("many accounts");
    }

    private void publish(Assembly module) {
        Check.due("publish", bench.publish(module), "DONE");
        modules.add(module.toBytes());
    }

    private void look(String what) throws NoSuchAlgorithmException {
        ResourceLedger x = bench.ledger;
        List<byte[][]> places = new ArrayList<>();
        for (long a : addresses) {
            places.add(new byte[][] {digest(bytes(1), longs(a)), digest(longs(x.account(a, 0), x.account(a, 1)))});
            byte[] stored = resource(a);
            if (stored.length > 0) {
                places.add(new byte[][] {digest(bytes(3), longs(a), bytes(1, 44, 0)), digest(stored)});
            }
        }
        for (byte[] module : modules) {
            places.add(new byte[][] {digest(bytes(2, module[4], module[5])), digest(module)});
        }
        Check.due(what + ": places", x.places(0), places.size());
        ByteBuffer want = ByteBuffer.wrap(hash(places, 0));
        for (int i = 0; i < 4; i++) {
            Check.due(what + ": root " + i, x.root(i), want.getLong(8 * i));
        }
    }

    private byte[] resource(long address) {
        int length = bench.ledger.resource(address, 300, 0);
        byte[] row = new byte[Math.max(length, 0)];
        for (int i = 0; i < row.length; i++) {
            row[i] = (byte) bench.ledger.byteOf(i);
        }
        return row;
    }

    private static byte[] hash(List<byte[][]> places, int level) throws NoSuchAlgorithmException {
        if (places.isEmpty()) {
            return new byte[32];
        }
        if (places.size() == 1) {
            return digest(bytes(0), places.get(0)[0], places.get(0)[1]);
        }
        List<byte[][]> left = new ArrayList<>();
        List<byte[][]> right = new ArrayList<>();
        for (byte[][] place : places) {
            boolean one = (place[0][level / 8] >> (7 - level % 8) & 1) == 1;
            (one ? right : left).add(place);
        }
        return digest(bytes(1), hash(left, level + 1), hash(right, level + 1));
    }

    private static byte[] digest(byte[]... rows) throws NoSuchAlgorithmException {
        MessageDigest all = MessageDigest.getInstance("SHA-256");
        for (byte[] row : rows) {
            all.update(row);
        }
        return all.digest();
    }

    private static byte[] bytes(int... numbers) {
        return Assembly.bytes(numbers);
    }

    private static byte[] longs(long... numbers) {
        ByteBuffer row = ByteBuffer.allocate(8 * numbers.length);
        for (long n : numbers) {
            row.putLong(n);
        }
        return row.array();
    }
}
