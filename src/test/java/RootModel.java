import java.nio.ByteBuffer;
import java.security.MessageDigest;
import java.security.NoSuchAlgorithmException;
import java.util.ArrayList;
import java.util.Comparator;
import java.util.List;

/** The root by the document's words (part 6), reckoned from a list of places. */
final class RootModel {
    static final int ACCOUNT = 1;
    static final int MODULE = 2;
    static final int RESOURCE = 3;
    /** Rows below this length are those that a weak digest spoils: KEYS are of 3, 9 or 12 bytes. */
    static final int SHORT_ROW = 16;
    private static final Comparator<Place> LEAST_FIRST = Comparator.comparingInt(Place::kind)
        .thenComparing(Place::address, Long::compareUnsigned)
        .thenComparingInt(Place::module).thenComparingInt(Place::structure);

    private final int[] mask;

    record Place(int kind, long address, int module, int structure, byte[] held) {
    }

    private record Leaf(byte[] key, byte[] value) {
    }

    RootModel() {
        this(new int[] {-1, -1, -1, -1, -1, -1, -1, -1});
    }

    /** With a weak digest: of each word of a short row's digest only the mask's bits are kept. */
    RootModel(int[] mask) {
        this.mask = mask;
    }

    static Place account(long address, long balance, long sequence) {
        return new Place(ACCOUNT, address, 0, 0, longs(balance, sequence));
    }

    static Place module(byte[] bytes) {
        return new Place(MODULE, 0, (bytes[4] & 255) << 8 | bytes[5] & 255, 0, bytes);
    }

    static Place resource(long address, int module, int structure, byte[] bytes) {
        return new Place(RESOURCE, address, module, structure, bytes);
    }

    ByteBuffer root(List<Place> places) {
        List<Place> sorted = new ArrayList<>(places);
        sorted.sort(LEAST_FIRST);
        List<Leaf> leaves = new ArrayList<>();
        for (Place place : sorted) {
            byte[] key = key(place);
            if (leaves.stream().noneMatch(leaf -> java.util.Arrays.equals(leaf.key(), key))) {
                leaves.add(new Leaf(key, digest(place.held())));
            }
        }
        return ByteBuffer.wrap(hash(leaves, 0));
    }

    private byte[] key(Place p) {
        byte[] kind = Assembly.bytes(p.kind());
        byte[] module = Assembly.bytes(p.module() >> 8, p.module());
        switch (p.kind()) {
            case ACCOUNT:
                return digest(kind, longs(p.address()));
            case MODULE:
                return digest(kind, module);
            default:
                return digest(kind, longs(p.address()), module, Assembly.bytes(p.structure()));
        }
    }

    private byte[] hash(List<Leaf> leaves, int level) {
        if (leaves.isEmpty()) {
            return new byte[32];
        }
        if (leaves.size() == 1) {
            return digest(Assembly.bytes(0), leaves.get(0).key(), leaves.get(0).value());
        }
        List<Leaf> left = new ArrayList<>();
        List<Leaf> right = new ArrayList<>();
        for (Leaf leaf : leaves) {
            boolean one = (leaf.key()[level / 8] >> (7 - level % 8) & 1) == 1;
            (one ? right : left).add(leaf);
        }
        return digest(Assembly.bytes(1), hash(left, level + 1), hash(right, level + 1));
    }

    byte[] digest(byte[]... rows) {
        byte[] row = Assembly.join(rows);
        ByteBuffer words = ByteBuffer.wrap(sha(row));
        for (int i = 0; i < 8 && row.length < SHORT_ROW; i++) {
            words.putInt(4 * i, words.getInt(4 * i) & mask[i]);
        }
        return words.array();
    }

    private static byte[] sha(byte[] row) {
        try {
            return MessageDigest.getInstance("SHA-256").digest(row);
        } catch (NoSuchAlgorithmException e) {
            throw new IllegalStateException(e);
        }
    }

    static byte[] longs(long... numbers) {
        ByteBuffer row = ByteBuffer.allocate(8 * numbers.length);
        for (long n : numbers) {
            row.putLong(n);
        }
        return row.array();
    }
}
