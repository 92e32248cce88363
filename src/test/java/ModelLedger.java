import java.nio.ByteBuffer;
import java.util.ArrayList;
import java.util.Arrays;
import java.util.List;
import java.util.Set;
import java.util.TreeMap;

/** The whole face by the document's words, written plainly to hold the class against. */
final class ModelLedger {
    static final int BAD = -1;
    static final int NO = -2;
    static final int FULL = -3;

    /** What was laid, and what came of it. */
    static final class Transaction {
        byte[] module;
        long sender;
        long sequence;
        int limit;
        int home;
        int function;
        final List<ModelDoing.Number> arguments = new ArrayList<>();
        boolean done;
        int outcome;
        long code;
        int gas;
        int place;
        List<ModelDoing.Number> results = new ArrayList<>();
    }

    private byte[] tape = new byte[0];
    private int woven;
    private final List<Transaction> block = new ArrayList<>();
    private ModelState state = new ModelState();
    private long minted;
    private long burned;
    private byte[] asked = new byte[0];
    // How often code came to a reference to what is gone: looking should have ruled it out.
    private int dangling;

    int type(long bytes, int n) {
        if (n < 1 || n > 8) {
            return BAD;
        }
        if (tape.length + n > 2048) {
            return FULL;
        }
        byte[] word = ByteBuffer.allocate(8).putLong(bytes).array();
        tape = Assembly.join(tape, Arrays.copyOfRange(word, 8 - n, 8));
        return tape.length;
    }

    boolean mint(long address, long coins) {
        if (coins < 0 || minted - burned + coins >= 1L << 62 || minted - burned + coins < 0) {
            return false;
        }
        if (!state.accounts.containsKey(address) && state.places() >= 256) {
            return false;
        }
        state.accounts.computeIfAbsent(address, a -> new long[2])[0] += coins;
        minted += coins;
        return true;
    }

    int begin() {
        int had = block.size();
        block.clear();
        return had;
    }

    private int lay(Transaction t, long sender, long sequence, int limit) {
        if (limit < 10 || limit > 20000) {
            return BAD;
        }
        if (block.size() >= 32) {
            return FULL;
        }
        t.sender = sender;
        t.sequence = sequence;
        t.limit = limit;
        block.add(t);
        return block.size() - 1;
    }

    int publish(long sender, long sequence, int limit) {
        Transaction t = new Transaction();
        t.module = tape;
        int n = lay(t, sender, sequence, limit);
        if (n >= 0) {
            tape = new byte[0];
        }
        return n;
    }

    int call(long sender, long sequence, int limit, int module, int function) {
        if (module < 0 || module > 65535 || function < 0 || function > 63) {
            return BAD;
        }
        Transaction t = new Transaction();
        t.home = module;
        t.function = function;
        return lay(t, sender, sequence, limit);
    }

    int argument(int type, long high, long low) {
        boolean fine = type >= 1 && type <= 5 && (high == 0 || type == 4);
        fine &= type != 1 || low == 0 || low == 1;
        fine &= type != 2 || low >= 0 && low < 256;
        if (!fine) {
            return BAD;
        }
        Transaction t = block.isEmpty() ? null : block.get(block.size() - 1);
        if (t == null || t.module != null || t.done) {
            return NO;
        }
        if (t.arguments.size() == 8) {
            return FULL;
        }
        t.arguments.add(new ModelDoing.Number(type, ModelDoing.unsigned(high, low)));
        return t.arguments.size();
    }

    int weave(long bits) {
        if (woven + 16 > 4096) {
            return FULL;
        }
        woven += 16;
        return woven;
    }

    int unweave() {
        int had = woven;
        woven = 0;
        return had;
    }

    int execute() {
        int done = 0;
        boolean any = false;
        for (Transaction t : block) {
            if (t.done) {
                continue;
            }
            any = true;
            t.done = true;
            perform(t);
            done += t.outcome == 0 ? 1 : 0;
        }
        return any ? done : NO;
    }

    private void perform(Transaction t) {
        int refusal = refusal(t);
        if (refusal != 0) {
            t.outcome = 3;
            t.code = refusal;
            return;
        }
        long[] account = state.accounts.get(t.sender);
        account[0] -= t.limit;
        account[1]++;
        if (t.module != null) {
            takeModule(t);
        } else {
            ModelDoing doing = new ModelDoing(state.copy(), t);
            if (doing.run()) {
                state = doing.state;
            }
            dangling += doing.dangling;
        }
        state.accounts.get(t.sender)[0] += t.limit - t.gas;
        burned += t.gas;
    }

    private int refusal(Transaction t) {
        long[] account = state.accounts.get(t.sender);
        if (account == null) {
            return 1;
        }
        if (account[1] != t.sequence) {
            return 2;
        }
        if (account[0] < t.limit) {
            return 3;
        }
        if (t.module != null) {
            return 0;
        }
        ModelModule home = state.modules.get(t.home);
        if (home == null) {
            return 4;
        }
        if (t.function >= home.ownFunctions) {
            return 5;
        }
        ModelModule.Function f = home.functions.get(t.function);
        if ((f.flags & 2) == 0) {
            return 6;
        }
        if (!f.takes.equals(t.arguments.stream().map(a -> List.of(a.kind())).toList())) {
            return 7;
        }
        return f.gives.stream().allMatch(g -> g.size() == 1 && g.get(0) <= 5) ? 0 : 8;
    }

    private void takeModule(Transaction t) {
        int cost = 10 + t.module.length / 16 + (t.module.length % 16 == 0 ? 0 : 1);
        t.gas = Math.min(cost, t.limit);
        t.outcome = 2;
        if (cost > t.limit) {
            t.code = 5;
            return;
        }
        t.code = 4;
        if (state.modules.size() == 9) {
            return;
        }
        ModelModule m = new ModelModule(t.module);
        try {
            m.read();
            m.fit(state.modules);
            for (int f = 0; f < m.ownFunctions; f++) {
                new ModelLook(m, m.functions.get(f)).look();
            }
        } catch (ModelModule.Fault fault) {
            t.outcome = 4;
            t.code = fault.why;
            t.place = fault.place;
            return;
        }
        if (state.places() == 256) {
            return;
        }
        state.modules.put(m.number, m);
        t.outcome = 0;
        t.code = 0;
    }

    int told(int t, int what) {
        if (t < 0 || t >= block.size() || what < 0 || what > 3) {
            return BAD;
        }
        Transaction x = block.get(t);
        if (!x.done) {
            return NO;
        }
        return what == 0 ? x.outcome : what == 1 ? x.gas : what == 2 ? x.results.size() : x.place;
    }

    long code(int t) {
        return t < 0 || t >= block.size() ? 0 : block.get(t).code;
    }

    long result(int t, int i, int what) {
        if (t < 0 || t >= block.size() || i < 0 || i >= block.get(t).results.size()) {
            return 0;
        }
        ModelDoing.Number r = block.get(t).results.get(i);
        return what == 0 ? r.n().longValue() : what == 1 ? r.n().shiftRight(64).longValue() : what == 2 ? r.kind() : 0;
    }

    long account(long address, int what) {
        long[] a = state.accounts.get(address);
        return a == null || what < 0 || what > 1 ? 0 : a[what];
    }

    long coins(int what) {
        switch (what) {
            case 0:
                return minted;
            case 1:
                return burned;
            case 2:
                return state.accounts.values().stream().mapToLong(a -> a[0]).sum();
            case 3:
                return state.resources.values().stream().mapToLong(c -> ModelDoing.coinsIn(c.held)).sum();
            default:
                return 0;
        }
    }

    int places(int what) {
        switch (what) {
            case 0:
                return state.places();
            case 1:
                return state.modules.size() - 1;
            case 2:
                return state.resources.size();
            case 3:
                return state.accounts.size();
            default:
                return BAD;
        }
    }

    int resource(long address, int module, int structure) {
        ModelDoing.Cell c = state.resources.get(new ModelState.Key(address, module, structure));
        asked = c == null ? new byte[0] : ModelDoing.bytes(c.held);
        return c == null ? NO : asked.length;
    }

    int byteOf(int i) {
        return i < 0 || i >= asked.length ? BAD : asked[i] & 255;
    }

    long root(int i) {
        if (i < 0 || i > 3) {
            return 0;
        }
        List<RootModel.Place> all = new ArrayList<>();
        state.accounts.forEach((address, a) -> all.add(RootModel.account(address, a[0], a[1])));
        state.modules.forEach((number, m) -> {
            if (number != 0) {
                all.add(RootModel.module(m.bytes));
            }
        });
        state.resources.forEach((k, c) -> all.add(
            RootModel.resource(k.address(), k.module(), k.structure(), ModelDoing.bytes(c.held))));
        return new RootModel().root(all).getLong(8 * i);
    }

    int slips() {
        return dangling;
    }

    TreeMap<Integer, ModelModule> modules() {
        return state.modules;
    }

    Set<ModelState.Key> resources() {
        return state.resources.keySet();
    }
}
