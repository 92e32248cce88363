import java.math.BigInteger;
import java.util.ArrayList;
import java.util.Arrays;
import java.util.Collections;
import java.util.HashSet;
import java.util.List;
import java.util.Set;

/** DOING one CALL by the document's words (parts 4 and 5), on a copy of the state. */
final class ModelDoing {
    /** A truth, byte, long, wide or address. */
    record Number(int kind, BigInteger n) {
    }

    /** A structure; a COIN is one of module 0. */
    record Whole(boolean coin, List<Cell> fields) {
    }

    record Row(List<Cell> elements) {
    }

    record Pointer(Cell to) {
    }

    /** Where a value lies that references may point to. */
    static final class Cell {
        Object held;

        Cell(Object held) {
            this.held = held;
        }
    }

    private static final class Stop extends RuntimeException {
        private static final long serialVersionUID = 1;
        final int outcome;
        final long code;

        Stop(int outcome, long code) {
            super(null, null, false, false);
            this.outcome = outcome;
            this.code = code;
        }
    }

    private record Place(int kind, long address, int module, int structure) {
    }

    /** A frame's stack and locals. */
    private static final class Frame {
        final List<Object> stack = new ArrayList<>();
        Cell[] locals;

        Object take() {
            return stack.remove(stack.size() - 1);
        }

        BigInteger number() {
            return ((Number) take()).n;
        }

        long bits() {
            return number().longValue();
        }
    }

    final ModelState state;
    int dangling;
    private final ModelLedger.Transaction t;
    private int gas;
    private final Set<Place> places = new HashSet<>();
    private final List<Frame> frames = new ArrayList<>();
    private Frame now;

    ModelDoing(ModelState state, ModelLedger.Transaction t) {
        this.state = state;
        this.t = t;
    }

    static BigInteger unsigned(long high, long low) {
        return new BigInteger(Long.toUnsignedString(high)).shiftLeft(64).add(new BigInteger(Long.toUnsignedString(low)));
    }

    static Object copy(Object v) {
        if (v instanceof Whole w) {
            return new Whole(w.coin, copies(w.fields));
        }
        return v instanceof Row r ? new Row(copies(r.elements)) : v;
    }

    private static List<Cell> copies(List<Cell> cells) {
        List<Cell> others = new ArrayList<>();
        for (Cell c : cells) {
            others.add(new Cell(copy(c.held)));
        }
        return others;
    }

    private static List<Cell> parts(Object v) {
        return v instanceof Whole w ? w.fields : v instanceof Row r ? r.elements : List.of();
    }

    static int size(Object v) {
        int n = 1;
        for (Cell c : parts(v)) {
            n += size(c.held);
        }
        return n;
    }

    static long coinsIn(Object v) {
        if (v instanceof Whole w && w.coin) {
            return ((Number) w.fields.get(0).held).n.longValue();
        }
        long n = 0;
        for (Cell c : parts(v)) {
            n += coinsIn(c.held);
        }
        return n;
    }

    static byte[] bytes(Object v) {
        if (v instanceof Number x) {
            int width = x.kind <= 2 ? 1 : x.kind == 4 ? 16 : 8;
            byte[] row = new byte[width];
            for (int i = 0; i < width; i++) {
                row[i] = x.n.shiftRight(8 * (width - 1 - i)).byteValue();
            }
            return row;
        }
        int n = parts(v).size();
        byte[] all = v instanceof Row ? Assembly.bytes(n >> 8, n) : new byte[0];
        for (Cell c : parts(v)) {
            all = Assembly.join(all, bytes(c.held));
        }
        return all;
    }

    private static boolean alike(Object a, Object b) {
        if (a instanceof Number) {
            return a.equals(b);
        }
        List<Cell> x = parts(a);
        List<Cell> y = parts(b);
        boolean so = x.size() == y.size();
        for (int i = 0; so && i < x.size(); i++) {
            so = alike(x.get(i).held, y.get(i).held);
        }
        return so;
    }

    /** Whether it is DONE; what came of it is told in the transaction. */
    boolean run() {
        try {
            ask(new Place(1, t.sender, 0, 0));
            ask(new Place(2, 0, t.home, 0));
            List<Object> taken = new ArrayList<>(t.arguments);
            List<Object> given = perform(state.modules.get(t.home), t.function, taken);
            for (Cell c : state.resources.values()) {
                if (size(c.held) > 64) {
                    throw new Stop(2, 4);
                }
            }
            if (state.places() > 256) {
                throw new Stop(2, 4);
            }
            for (Object v : given) {
                t.results.add((Number) v);
            }
        } catch (Stop s) {
            t.outcome = s.outcome;
            t.code = s.code;
        }
        t.gas = gas;
        return t.outcome == 0;
    }

    private void ask(Place p) {
        if (!places.contains(p)) {
            if (places.size() == 24) {
                throw new Stop(2, 4);
            }
            places.add(p);
        }
    }

    private void pay(int cost) {
        if (gas + cost > t.limit) {
            gas = t.limit;
            throw new Stop(2, 5);
        }
        gas += cost;
    }

    private List<Object> perform(ModelModule m, int function, List<Object> taken) {
        ModelModule.Function f = m.functions.get(function);
        Frame frame = new Frame();
        frame.locals = new Cell[f.locals().size()];
        for (int k = 0; k < taken.size(); k++) {
            frame.locals[k] = new Cell(taken.get(k));
        }
        frames.add(frame);
        now = frame;
        int i = 0;
        while (f.code.get(i).op() != 1) {
            pay(1);
            ModelModule.Instruction x = f.code.get(i);
            i++;
            if (x.op() >= 2 && x.op() <= 4) {
                if (x.op() == 2 || now.number().equals(BigInteger.ONE) == (x.op() == 3)) {
                    i = x.a();
                }
            } else {
                operate(m, x);
                now = frame;
            }
        }
        pay(1);
        frames.remove(frames.size() - 1);
        return frame.stack;
    }

    private void put(Object v) {
        now.stack.add(v);
    }

    private void put(int kind, BigInteger n) {
        int bits = kind == 1 ? 1 : kind == 2 ? 8 : kind == 4 ? 128 : 64;
        if (n.signum() < 0 || n.bitLength() > bits) {
            throw new Stop(2, 1);
        }
        put(new Number(kind, n));
    }

    private void put(boolean so) {
        put(new Number(1, so ? BigInteger.ONE : BigInteger.ZERO));
    }

    private Cell pointee(Object reference) {
        Cell c = ((Pointer) reference).to;
        if (!isSomewhere(c)) {
            dangling++;
        }
        return c;
    }

    private boolean isSomewhere(Cell c) {
        for (Frame f : frames) {
            for (Cell local : f.locals) {
                if (local != null && holds(local, c)) {
                    return true;
                }
            }
        }
        for (Cell r : state.resources.values()) {
            if (holds(r, c)) {
                return true;
            }
        }
        return false;
    }

    private static boolean holds(Cell outer, Cell c) {
        if (outer == c) {
            return true;
        }
        for (Cell inner : parts(outer.held)) {
            if (holds(inner, c)) {
                return true;
            }
        }
        return false;
    }

    private void operate(ModelModule m, ModelModule.Instruction x) {
        int op = x.op();
        if (op <= 10 || op == 35 || op == 45 || op == 46) {
            set(x);
        } else if (op <= 15) {
            useLocal(op, x.a());
        } else if (op <= 20) {
            refer(op, x.b());
        } else if (op == 21) {
            put(new Whole(false, gather(m.structures.get(x.a()).fields.size())));
        } else if (op == 22) {
            for (Cell c : ((Whole) now.take()).fields) {
                put(c.held);
            }
        } else if (op == 23) {
            call(m, m.functions.get(x.a()));
        } else if (op <= 44) {
            reckon(op);
        } else if (op <= 51) {
            keep(op, m.number, x.a());
        } else {
            lineUp(op, x.b());
        }
    }

    private void set(ModelModule.Instruction x) {
        switch (x.op()) {
            case 0:
                now.take();
                break;
            case 5:
                put(2, BigInteger.valueOf(x.a()));
                break;
            case 6:
                put(3, unsigned(0, x.low()));
                break;
            case 7:
                put(4, unsigned(x.high(), x.low()));
                break;
            case 8:
                put(true);
                break;
            case 9:
                put(false);
                break;
            case 10:
                put(5, unsigned(0, x.low()));
                break;
            case 46:
                put(5, unsigned(0, t.sender));
                break;
            case 45:
                throw new Stop(1, now.bits());
            default:
                break;
        }
    }

    private void useLocal(int op, int a) {
        Cell c = now.locals[a];
        switch (op) {
            case 11:
                pay(size(c.held));
                put(copy(c.held));
                break;
            case 12:
                now.locals[a] = null;
                put(c.held);
                break;
            case 13:
                now.locals[a] = new Cell(now.take());
                break;
            default:
                put(new Pointer(c));
                break;
        }
    }

    private void refer(int op, int field) {
        Cell c = pointee(now.take());
        if (op <= 17) {
            put(new Pointer(((Whole) c.held).fields.get(field)));
        } else if (op == 18) {
            pay(size(c.held));
            put(copy(c.held));
        } else if (op == 19) {
            c.held = now.take();
        } else {
            put(new Pointer(c));
        }
    }

    private List<Cell> gather(int count) {
        List<Cell> cells = new ArrayList<>();
        for (int k = 0; k < count; k++) {
            cells.add(new Cell(now.take()));
        }
        Collections.reverse(cells);
        return cells;
    }

    private void call(ModelModule m, ModelModule.Function g) {
        if (g.module == 0) {
            useCoin(g.number);
            return;
        }
        if (frames.size() == 32) {
            throw new Stop(2, 4);
        }
        if (g.module != m.number) {
            ask(new Place(2, 0, g.module, 0));
        }
        pay(5);
        List<Object> taken = new ArrayList<>();
        for (int k = 0; k < g.takes.size(); k++) {
            taken.add(0, now.take());
        }
        Frame here = now;
        List<Object> given = perform(state.modules.get(g.module), g.number, taken);
        now = here;
        given.forEach(this::put);
    }

    private void useCoin(int function) {
        if (function == 0) {
            ask(new Place(1, t.sender, 0, 0));
            pay(5);
            BigInteger n = now.number();
            long[] account = state.accounts.get(t.sender);
            if (n.compareTo(BigInteger.valueOf(account[0])) > 0) {
                throw new Stop(1, 1);
            }
            account[0] -= n.longValue();
            put(coin(n));
        } else if (function == 1) {
            Object coin = now.take();
            long address = now.bits();
            ask(new Place(1, address, 0, 0));
            pay(5);
            state.accounts.computeIfAbsent(address, a -> new long[2])[0] += coinsIn(coin);
        } else if (function == 5) {
            long address = now.bits();
            ask(new Place(1, address, 0, 0));
            pay(5);
            long[] account = state.accounts.get(address);
            put(3, BigInteger.valueOf(account == null ? 0 : account[0]));
        } else {
            pay(5);
            useCoins(function);
        }
    }

    private void useCoins(int function) {
        if (function == 2) {
            put(3, BigInteger.valueOf(coinsIn(pointee(now.take()).held)));
        } else if (function == 3) {
            put(coin(BigInteger.valueOf(coinsIn(now.take()) + coinsIn(now.take()))));
        } else {
            BigInteger n = now.number();
            BigInteger all = BigInteger.valueOf(coinsIn(now.take()));
            if (all.compareTo(n) < 0) {
                throw new Stop(1, 2);
            }
            put(coin(all.subtract(n)));
            put(coin(n));
        }
    }

    private static Whole coin(BigInteger n) {
        List<Cell> fields = new ArrayList<>();
        fields.add(new Cell(new Number(3, n)));
        return new Whole(true, fields);
    }

    private void reckon(int op) {
        Object second = now.take();
        if (op == 34) {
            put(((Number) second).n.signum() == 0);
        } else if (op >= 42) {
            put(op - 40, ((Number) second).n);
        } else if (op == 36 || op == 37) {
            Object first = now.take();
            pay(size(first) + size(second));
            put(alike(first, second) == (op == 36));
        } else {
            Number first = (Number) now.take();
            reckon(op, first.kind, first.n, ((Number) second).n);
        }
    }

    private void reckon(int op, int kind, BigInteger a, BigInteger b) {
        int bits = kind == 2 ? 8 : kind == 3 ? 64 : 128;
        if ((op == 27 || op == 28) && b.signum() == 0 || (op == 32 || op == 33) && b.intValue() >= bits) {
            throw new Stop(2, 1);
        }
        int order = a.compareTo(b);
        switch (op) {
            case 24: put(kind, a.add(b)); break;
            case 25: put(kind, a.subtract(b)); break;
            case 26: put(kind, a.multiply(b)); break;
            case 27: put(kind, a.divide(b)); break;
            case 28: put(kind, a.mod(b)); break;
            case 29: put(kind, a.and(b)); break;
            case 30: put(kind, a.or(b)); break;
            case 31: put(kind, a.xor(b)); break;
            case 32: put(kind, a.shiftLeft(b.intValue()).mod(BigInteger.ONE.shiftLeft(bits))); break;
            case 33: put(kind, a.shiftRight(b.intValue())); break;
            case 38: put(order < 0); break;
            case 39: put(order <= 0); break;
            case 40: put(order > 0); break;
            default: put(order >= 0); break;
        }
    }

    private void keep(int op, int module, int structure) {
        Object v = now.take();
        long address = op == 47 ? t.sender : ((Number) v).n.longValue();
        ask(new Place(3, address, module, structure));
        ModelState.Key key = new ModelState.Key(address, module, structure);
        Cell c = state.resources.get(key);
        if (op == 47 ? c != null : op != 49 && c == null) {
            throw new Stop(2, 3);
        }
        pay(op == 47 ? 10 + size(v) : 10);
        if (op == 47) {
            state.resources.put(key, new Cell(v));
        } else if (op == 48) {
            state.resources.remove(key);
            put(c.held);
        } else if (op == 49) {
            put(c != null);
        } else {
            put(new Pointer(c));
        }
    }

    private void lineUp(int op, int count) {
        if (op == 52) {
            pay(count);
            put(new Row(gather(count)));
        } else if (op == 59) {
            byte[] row = bytes(now.take());
            pay(32 + row.length - 2);
            digest(Arrays.copyOfRange(row, 2, row.length));
        } else if (op == 53) {
            put(3, BigInteger.valueOf(row().size()));
        } else if (op == 54 || op == 55) {
            BigInteger i = now.number();
            List<Cell> row = row();
            put(new Pointer(row.get(within(i, row))));
        } else if (op == 56) {
            Object v = now.take();
            List<Cell> row = row();
            if (row.size() == 256) {
                throw new Stop(2, 4);
            }
            row.add(new Cell(v));
        } else if (op == 57) {
            List<Cell> row = row();
            within(BigInteger.ZERO, row);
            put(row.remove(row.size() - 1).held);
        } else {
            BigInteger i = now.number();
            BigInteger j = now.number();
            List<Cell> row = row();
            Collections.swap(row, within(i, row), within(j, row));
        }
    }

    private List<Cell> row() {
        return ((Row) pointee(now.take()).held).elements;
    }

    private static int within(BigInteger i, List<Cell> row) {
        if (i.compareTo(BigInteger.valueOf(row.size())) >= 0) {
            throw new Stop(2, 2);
        }
        return i.intValue();
    }

    private void digest(byte[] row) {
        List<Cell> cells = new ArrayList<>();
        for (byte b : new RootModel().digest(row)) {
            cells.add(new Cell(new Number(2, BigInteger.valueOf(b & 255))));
        }
        put(new Row(cells));
    }
}
