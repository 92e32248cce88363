import java.nio.ByteBuffer;
import java.util.ArrayList;
import java.util.List;

/** Promise 19: the root, against the document's words from what the ledger tells. */
final class RootTest {
    private final Bench bench = new Bench();
    private final List<Long> addresses = new ArrayList<>(List.of(1L, 2L));
    private final List<byte[]> modules = new ArrayList<>();

    private RootTest() {
    }

    public static void main(String[] args) {
        ResourceLedger one = new ResourceLedger(1);
        for (int i = 0; i < 4; i++) {
            Check.due("no places", one.root(i), 0);
        }
        one.mint(-5, 77);
        ByteBuffer leaf = new RootModel().root(List.of(RootModel.account(-5, 77, 0)));
        for (int i = 0; i < 4; i++) {
            Check.due("one account", one.root(i), leaf.getLong(8 * i));
        }
        Check.due("no number -1", one.root(-1), 0);
        Check.due("no number 4", one.root(4), 0);
        new RootTest().grow();
        manyAccounts();
        Check.end();
    }

    private void grow() {
        look("two accounts");
        publish(new Assembly(300).structure(12, "long *byte").element("byte")
            .function(6, "long byte", "", "", "move 0; copy 1; move 1; vector 0 2; pack 0; put 0; ret")
            .function(6, "", "", "", "sender; take 0; unpack 0; pop; pop; ret")
            .function(6, "byte", "", "", "sender; borrow! 0; field! 0 1; move 0; push 0; ret"));
        look("a module");
        publish(new Assembly(7).coin(0).function(2, "addr long", "", "", "move 0; move 1; call 1; call 2; ret"));
        look("two modules");
        bench.run(300, 0, "long:5", "byte:9");
        look("a resource");
        bench.run(2, 500, 300, 0, "long:-1", "byte:255");
        look("two resources");
        bench.run(300, 2, "byte:7");
        look("one is changed");
        bench.run(300, 0, "long:5", "byte:9");
        look("an error: just balance and sequence");
        bench.run(7, 0, "addr:9", "long:50");
        addresses.add(9L);
        look("a new account");
        bench.run(2, 500, 300, 1);
        look("a resource less");
        bench.run(99, 0);
        look("a refused one");
    }

    /** Balances are known here: asking for each of them would take more calls than an object is used for. */
    private static void manyAccounts() {
        ResourceLedger x = new ResourceLedger(1);
        List<RootModel.Place> places = new ArrayList<>();
        for (long a = 1000; a < 1240; a++) {
            x.mint(a * 0x9e3779b97f4a7c15L, a);
            places.add(RootModel.account(a * 0x9e3779b97f4a7c15L, a, 0));
            if (a % 40 == 39) {
                due(places.size() + " accounts", x, places);
            }
        }
    }

    private void publish(Assembly module) {
        Check.due("publish", bench.publish(module), "DONE");
        modules.add(module.toBytes());
    }

    private void look(String what) {
        ResourceLedger x = bench.ledger;
        List<RootModel.Place> places = new ArrayList<>();
        for (long a : addresses) {
            places.add(RootModel.account(a, x.account(a, 0), x.account(a, 1)));
            byte[] stored = bench.stored(a, 300, 0);
            if (stored.length > 0) {
                places.add(RootModel.resource(a, 300, 0, stored));
            }
        }
        for (byte[] module : modules) {
            places.add(RootModel.module(module));
        }
        due(what, x, places);
    }

    private static void due(String what, ResourceLedger x, List<RootModel.Place> places) {
        Check.due(what + ": places", x.places(0), places.size());
        ByteBuffer want = new RootModel().root(places);
        for (int i = 0; i < 4; i++) {
            Check.due(what + ": root " + i, x.root(i), want.getLong(8 * i));
        }
    }
}
