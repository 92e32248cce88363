import java.nio.ByteBuffer;
import java.util.ArrayList;
import java.util.Arrays;
import java.util.Collections;
import java.util.List;
import java.util.Random;

/**
 * Promise 19, where places have one KEY: of these just the least one counts. No calls are known
 * that make such places with the document's digest, so the class is compiled here once more with
 * a weak digest, which keeps only some bits of each KEY, and is held against the model of the root
 * with the same weak digest.
 */
public final class SameKeyTest {
    private static final String WEAK = "weak";
    private static final int MODULES = 8;
    private static final int STRUCTURES = 5;

    private final int[] mask;
    private final Random random;
    private final Bench bench;
    private final List<Long> addresses = new ArrayList<>();
    private final List<Assembly> modules = new ArrayList<>();
    private final List<Integer> numbers = new ArrayList<>();

    private SameKeyTest(int[] mask, long seed) {
        this.mask = mask;
        random = new Random(seed);
        for (int i = 0; i < 8; i++) {
            System.setProperty(WEAK + i, String.valueOf(mask[i]));
        }
        bench = new Bench();
        addresses.add(1L);
        addresses.add(2L);
    }

    public static void main(String[] args) throws Exception {
        if (args.length == 0) {
            Altered.run("SameKeyTest", WEAK, SameKeyTest::weaken);
            return;
        }
        // Which bits of a KEY's eight words are kept: none, the first, the last, both, some of each.
        int[][] masks = {{0, 0, 0, 0, 0, 0, 0, 0}, {1 << 31, 0, 0, 0, 0, 0, 0, 0}, {0, 0, 0, 0, 0, 0, 0, 1},
            {1 << 31, 0, 0, 0, 0, 0, 0, 1}, {0, 1, 1 << 31, 1, 1 << 31, 1, 1 << 31, 0}, {0, 0, 0, 0, 0, 0, 0, 7},
            {3 << 30, 0, 0, 3, 0, 0, 0, 3}, {0x80000001, 1, 1, 1, 1, 1, 1, 1}, {0, 0, 0, 1023, 0, 0, 0, 1},
            {-1, -1, -1, -1, -1, -1, -1, -1}};
        for (int m = 0; m < masks.length; m++) {
            new SameKeyTest(masks[m], 2 * m).few();
            new SameKeyTest(masks[m], 2 * m + 1).many();
        }
        Check.end();
    }

    /** The end of the digest, with which it keeps only some bits of a KEY's words. */
    private static String weaken(String text) {
        String finish = "void finish() {\n";
        String weak = "void finish() { boolean isShort = total < " + RootModel.SHORT_ROW + "; finishWhole();"
            + " for (int i = 0; i < 8 && isShort; i++) { words[i] &= Integer.getInteger(\"" + WEAK + "\" + i); } }\n"
            + "void finishWhole() {\n";
        return Altered.replaceOnce(text, finish, weak);
    }

    /** A few accounts, so that modules and resources have KEYS without an account. */
    private void few() {
        look("two accounts");
        publishAll();
        putSome(2);
        mint(0);
        mint(-1);
        look("the least account of all and the greatest one");
        takeSome();
    }

    /** As many places as there may be, accounts first. */
    private void many() {
        List<Long> order = new ArrayList<>();
        for (long a = 0; a < 40; a++) {
            Collections.addAll(order, -a, a << 58, (a << 58) + a * a);
        }
        Collections.shuffle(order, random);
        for (long a : order) {
            mint(a);
        }
        look("many accounts");
        publishAll();
        putSome(addresses.size());
        takeSome();
        for (long a = 1000; bench.ledger.places(0) < 256; a++) {
            mint(a * 0x9e3779b97f4a7c15L);
        }
        look("as many as there may be");
    }

    private void mint(long address) {
        if (!addresses.contains(address)) {
            addresses.add(address);
        }
        Check.due("mint " + address, bench.ledger.mint(address, 5000 + random.nextInt(100)), true);
    }

    /** Modules whose function s puts structure s, and function STRUCTURES + s takes it away. */
    private void publishAll() {
        numbers.addAll(List.of(1, 2, 255, 256, 257, 300, 32768, 65535));
        Collections.shuffle(numbers, random);
        for (int number : numbers) {
            Assembly module = new Assembly(number);
            for (int s = 0; s < STRUCTURES; s++) {
                module.structure(12, s % 2 == 0 ? "long" : "wide long");
            }
            for (int s = 0; s < STRUCTURES; s++) {
                String wide = s % 2 == 0 ? "" : "wide 7 8; ";
                module.function(6, "long", "", "", wide + "move 0; pack " + s + "; put " + s + "; ret");
            }
            for (int s = 0; s < STRUCTURES; s++) {
                String wide = s % 2 == 0 ? "" : "; pop";
                module.function(6, "", "", "", "sender; take " + s + "; unpack " + s + "; pop" + wide + "; ret");
            }
            Check.due("publish " + number, bench.publish(module), "DONE");
            modules.add(module);
            look("module " + number);
        }
    }

    private void putSome(int senders) {
        for (int i = 0; i < 60; i++) {
            long sender = addresses.get(random.nextInt(senders));
            bench.run(sender, 500, numbers.get(random.nextInt(MODULES)), random.nextInt(STRUCTURES),
                "long:" + random.nextInt(1000));
            if (i % 5 == 0) {
                look("resource " + i);
            }
        }
    }

    private void takeSome() {
        for (int number : numbers) {
            for (long sender : addresses) {
                int s = random.nextInt(STRUCTURES);
                if (bench.ledger.resource(sender, number, s) > 0) {
                    bench.run(sender, 500, number, STRUCTURES + s);
                }
            }
            look("resources less");
        }
    }

    private void look(String what) {
        String where = Arrays.toString(mask) + " " + what;
        List<RootModel.Place> places = places();
        Check.due(where + ": places", bench.ledger.places(0), places.size());
        ByteBuffer want = new RootModel(mask).root(places);
        for (int i = 0; i < 4; i++) {
            Check.due(where + ": root " + i, bench.ledger.root(i), want.getLong(8 * i));
        }
    }

    private List<RootModel.Place> places() {
        List<RootModel.Place> places = new ArrayList<>();
        for (long a : addresses) {
            places.add(RootModel.account(a, bench.ledger.account(a, 0), bench.ledger.account(a, 1)));
            for (int number : numbers) {
                for (int s = 0; s < STRUCTURES; s++) {
                    byte[] stored = bench.stored(a, number, s);
                    if (stored.length > 0) {
                        places.add(RootModel.resource(a, number, s, stored));
                    }
                }
            }
        }
        for (Assembly module : modules) {
            places.add(RootModel.module(module.toBytes()));
        }
        return places;
    }
}
