import java.util.ArrayList;
import java.util.HashSet;
import java.util.List;
import java.util.Set;
import java.util.TreeSet;

/** LOOKING at one function, by the document's words (part 3, faults 31 on). */
final class ModelLook {
    private static final List<Integer> TRUTH = List.of(1);
    private static final List<Integer> BYTE = List.of(2);
    private static final List<Integer> LONG = List.of(3);
    private static final List<Integer> WIDE = List.of(4);
    private static final List<Integer> ADDRESS = List.of(5);
    private static final List<Integer> BYTES = List.of(7, 2);

    /** A fault w at the instruction that is looked at. */
    static final class Wrong extends RuntimeException {
        private static final long serialVersionUID = 1;
        final int why;

        Wrong(int why) {
            super(null, null, false, false);
            this.why = why;
        }
    }

    /** A value on the stack or in a local; origins are empty for what is no reference. */
    record Slot(List<Integer> type, Set<Integer> origins, boolean inside) {
        Slot(List<Integer> type) {
            this(type, Set.of(), false);
        }

        boolean writes() {
            return type.get(0) == ModelModule.WRITING;
        }

        boolean meets(Slot other) {
            return origins.stream().anyMatch(other.origins::contains);
        }
    }

    /** The stack, and the locals: null for one that is gone. */
    static final class State {
        final List<Slot> stack = new ArrayList<>();
        final Slot[] locals;

        State(int count) {
            locals = new Slot[count];
        }

        State copy() {
            State other = new State(locals.length);
            other.stack.addAll(stack);
            System.arraycopy(locals, 0, other.locals, 0, locals.length);
            return other;
        }

        List<Slot> live() {
            List<Slot> all = new ArrayList<>();
            for (Slot s : stack) {
                if (ModelModule.isReference(s.type)) {
                    all.add(s);
                }
            }
            for (Slot s : locals) {
                if (s != null && ModelModule.isReference(s.type)) {
                    all.add(s);
                }
            }
            return all;
        }
    }

    private final ModelModule m;
    private final ModelModule.Function f;
    private final List<List<Integer>> types;
    private State now;

    ModelLook(ModelModule m, ModelModule.Function f) {
        this.m = m;
        this.f = f;
        types = f.locals();
    }

    State first() {
        State s = new State(types.size());
        for (int k = 0; k < f.takes.size(); k++) {
            boolean reference = ModelModule.isReference(types.get(k));
            s.locals[k] = new Slot(types.get(k), reference ? Set.of(40 + k) : Set.of(), false);
        }
        return s;
    }

    /** Looks at the whole function; a Fault when there is one. */
    void look() {
        int n = f.code.size();
        State[] states = new State[n];
        states[0] = first();
        Set<Integer> led = new HashSet<>();
        for (ModelModule.Instruction i : f.code) {
            if (i.op() >= 2 && i.op() <= 4) {
                led.add(i.a());
            }
        }
        for (int i = 0; i < n; i++) {
            try {
                visit(i, states, led);
            } catch (Wrong w) {
                throw new ModelModule.Fault(30 + w.why, 1024 * f.number + i);
            }
        }
    }

    private void visit(int i, State[] states, Set<Integer> led) {
        need(states[i] != null, 10);
        need(!led.contains(i) || states[i].stack.isEmpty(), 8);
        State after = states[i].copy();
        ModelModule.Instruction instruction = f.code.get(i);
        int op = instruction.op();
        operate(after, instruction);
        if (op >= 2 && op <= 4) {
            come(i, instruction.a(), after, states);
        }
        if (op != 1 && op != 2 && op != 45) {
            need(i + 1 < states.length, 11);
            come(i, i + 1, after, states);
        }
    }

    private void come(int i, int j, State with, State[] states) {
        if (j <= i) {
            comeBack(with, states[j]);
        } else if (states[j] == null) {
            states[j] = with.copy();
        } else {
            join(states[j], with);
        }
    }

    void join(State kept, State other) {
        for (int k = 0; k < kept.locals.length; k++) {
            Slot a = kept.locals[k];
            Slot b = other.locals[k];
            if (a == null || b == null) {
                need(a == b || m.has(types.get(k), 2), 9);
                kept.locals[k] = null;
            } else {
                Set<Integer> both = new TreeSet<>(a.origins);
                both.addAll(b.origins);
                kept.locals[k] = new Slot(a.type, both, a.inside || b.inside);
            }
        }
        // Whoever comes with something on the stack to where a branch leads is at fault there.
        if (!other.stack.isEmpty()) {
            kept.stack.clear();
            kept.stack.addAll(other.stack);
        }
    }

    void comeBack(State with, State kept) {
        for (int k = 0; k < kept.locals.length; k++) {
            Slot a = kept.locals[k];
            Slot b = with.locals[k];
            if (a == null) {
                need(b == null || m.has(types.get(k), 2), 9);
            } else {
                need(b != null && a.origins.containsAll(b.origins) && (!b.inside || a.inside), 9);
            }
        }
    }

    static void need(boolean fine, int why) {
        if (!fine) {
            throw new Wrong(why);
        }
    }

    private Slot take() {
        need(!now.stack.isEmpty(), 1);
        return now.stack.remove(now.stack.size() - 1);
    }

    private Slot take(List<Integer> type) {
        Slot s = take();
        need(s.type.equals(type), 3);
        return s;
    }

    /** Takes a reference, to a certain type if one is told. */
    private Slot takeReference(List<Integer> to, boolean writing) {
        Slot s = take();
        need(ModelModule.isReference(s.type), 3);
        need(to == null || to(s).equals(to), 3);
        need(!writing || s.writes(), 7);
        return s;
    }

    private static List<Integer> to(Slot reference) {
        return reference.type.subList(1, reference.type.size());
    }

    private void put(Slot s) {
        need(now.stack.size() < 64, 2);
        now.stack.add(s);
    }

    private void put(List<Integer> type) {
        put(new Slot(type));
    }

    private static List<Integer> pointing(boolean writing, List<Integer> type) {
        return ModelModule.behind(writing ? ModelModule.WRITING : ModelModule.REFERENCE, type);
    }

    private boolean anyLive(int origin) {
        return now.live().stream().anyMatch(s -> s.origins.contains(origin));
    }

    private boolean anyLiveWriting(int origin) {
        return now.live().stream().anyMatch(s -> s.origins.contains(origin) && s.writes());
    }

    private static boolean isSole(Slot one, List<Slot> others) {
        for (Slot s : others) {
            if (s.meets(one) && (!s.writes() || s.inside)) {
                return false;
            }
        }
        return true;
    }

    /** What an operation does to a state, or the fault at it, but for where one comes to then. */
    void operate(State state, ModelModule.Instruction i) {
        now = state;
        int op = i.op();
        if (op <= 4 || op == 45) {
            steer(op);
        } else if (op <= 10 || op == 35 || op == 46) {
            set(op);
        } else if (op <= 15) {
            useLocal(op, i.a());
        } else if (op <= 20) {
            refer(op, i.a(), i.b());
        } else if (op <= 22) {
            pack(op, i.a());
        } else if (op == 23) {
            call(m.functions.get(i.a()));
        } else if (op <= 44) {
            reckon(op);
        } else if (op <= 51) {
            keep(op, i.a());
        } else {
            lineUp(op, i.a(), i.b());
        }
    }

    private void steer(int op) {
        switch (op) {
            case 0:
                need(m.has(take().type, 2), 4);
                break;
            case 1:
                giveBack();
                break;
            case 45:
                take(LONG);
                break;
            default:
                if (op != 2) {
                    take(TRUTH);
                }
                need(now.stack.isEmpty(), 8);
                break;
        }
    }

    private void giveBack() {
        need(now.stack.stream().map(Slot::type).toList().equals(f.gives), 12);
        for (Slot s : now.stack) {
            for (int origin : s.origins) {
                need(origin >= 40 && origin <= 47, 14);
            }
        }
        for (Slot s : now.locals) {
            need(s == null || m.has(s.type, 2), 13);
        }
    }

    private void set(int op) {
        if (op == 5) {
            put(BYTE);
        } else if (op == 6) {
            put(LONG);
        } else if (op == 7) {
            put(WIDE);
        } else if (op == 8 || op == 9) {
            put(TRUTH);
        } else if (op != 35) {
            put(ADDRESS);
        }
    }

    private void useLocal(int op, int a) {
        List<Integer> type = types.get(a);
        boolean plain = !ModelModule.isReference(type);
        Slot held = now.locals[a];
        switch (op) {
            case 11:
                need(held != null, 5);
                need(m.has(type, 1), 4);
                need(!plain || !anyLiveWriting(a), 6);
                put(held);
                break;
            case 12:
                need(held != null, 5);
                need(!plain || !anyLive(a), 6);
                now.locals[a] = null;
                put(held);
                break;
            case 13:
                Slot s = take(type);
                need(held == null || m.has(type, 2), 4);
                need(!plain || !anyLive(a), 6);
                now.locals[a] = s;
                break;
            default:
                need(held != null, 5);
                need(plain, 3);
                need(op == 14 ? !anyLiveWriting(a) : !anyLive(a), 6);
                put(new Slot(pointing(op == 15, type), Set.of(a), false));
                break;
        }
    }

    private void refer(int op, int a, int b) {
        if (op <= 17) {
            Slot s = takeReference(List.of(6, a), op == 17);
            put(new Slot(pointing(op == 17, m.structures.get(a).fields.get(b)), s.origins, true));
        } else if (op == 18) {
            Slot s = takeReference(null, false);
            need(m.has(to(s), 1), 4);
            put(to(s));
        } else if (op == 19) {
            Slot s = takeReference(null, true);
            take(to(s));
            need(m.has(to(s), 2), 4);
            need(isSole(s, now.live()), 6);
        } else {
            Slot s = takeReference(null, true);
            put(new Slot(pointing(false, to(s)), s.origins, s.inside));
        }
    }

    private void pack(int op, int a) {
        List<List<Integer>> fields = m.structures.get(a).fields;
        if (op == 21) {
            for (int k = fields.size() - 1; k >= 0; k--) {
                take(fields.get(k));
            }
            put(List.of(6, a));
        } else {
            take(List.of(6, a));
            fields.forEach(this::put);
        }
    }

    private void call(ModelModule.Function g) {
        List<Slot> taken = new ArrayList<>();
        for (int k = g.takes.size() - 1; k >= 0; k--) {
            taken.add(take(g.takes.get(k)));
        }
        boolean resources = (g.flags & 4) != 0;
        need(!resources || (f.flags & 4) != 0, 15);
        Set<Integer> all = new TreeSet<>();
        Set<Integer> ofWriting = new TreeSet<>();
        for (int k = 0; k < taken.size(); k++) {
            Slot one = taken.get(k);
            all.addAll(one.origins);
            if (one.writes()) {
                ofWriting.addAll(one.origins);
                List<Slot> others = now.live();
                for (int j = 0; j < taken.size(); j++) {
                    if (j != k) {
                        others.add(new Slot(taken.get(j).type, taken.get(j).origins, true));
                    }
                }
                need(isSole(one, others), 6);
            }
        }
        if (resources) {
            List<Slot> any = now.live();
            any.addAll(taken);
            need(any.stream().allMatch(s -> s.origins.stream().allMatch(o -> o <= 47)), 6);
        }
        for (List<Integer> t : g.gives) {
            boolean writing = t.get(0) == ModelModule.WRITING;
            put(ModelModule.isReference(t) ? new Slot(t, writing ? ofWriting : all, true) : new Slot(t));
        }
    }

    private static boolean isNumber(List<Integer> t) {
        return t.equals(BYTE) || t.equals(LONG) || t.equals(WIDE);
    }

    private void reckon(int op) {
        List<Integer> t;
        if (op <= 31) {
            t = take().type;
            need(isNumber(t) || op >= 29 && t.equals(TRUTH), 3);
            take(t);
            put(t);
        } else if (op <= 33) {
            take(BYTE);
            t = take().type;
            need(isNumber(t), 3);
            put(t);
        } else if (op == 34) {
            take(TRUTH);
            put(TRUTH);
        } else if (op <= 37) {
            t = take().type;
            need(!ModelModule.isReference(t), 3);
            take(t);
            need(m.has(t, 2), 4);
            put(TRUTH);
        } else if (op <= 41) {
            t = take().type;
            need(isNumber(t), 3);
            take(t);
            put(TRUTH);
        } else {
            need(isNumber(take().type), 3);
            put(op == 42 ? BYTE : op == 43 ? LONG : WIDE);
        }
    }

    private void keep(int op, int a) {
        List<Integer> type = List.of(6, a);
        int origin = 48 + a % 15;
        take(op == 47 ? type : ADDRESS);
        need((f.flags & 4) != 0, 15);
        need(m.has(type, 8), 4);
        switch (op) {
            case 48:
                need(!anyLive(origin), 6);
                put(type);
                break;
            case 49:
                put(TRUTH);
                break;
            case 50:
                need(!anyLiveWriting(origin), 6);
                put(new Slot(pointing(false, type), Set.of(origin), false));
                break;
            case 51:
                need(!anyLive(origin), 6);
                put(new Slot(pointing(true, type), Set.of(origin), false));
                break;
            default:
                break;
        }
    }

    private void lineUp(int op, int a, int b) {
        if (op == 59) {
            take(BYTES);
            put(BYTES);
            return;
        }
        List<Integer> element = m.elements.get(a);
        List<Integer> vector = ModelModule.behind(7, element);
        Slot s;
        switch (op) {
            case 52:
                for (int k = 0; k < b; k++) {
                    take(element);
                }
                put(vector);
                break;
            case 53:
                takeReference(vector, false);
                put(LONG);
                break;
            case 54:
            case 55:
                take(LONG);
                s = takeReference(vector, op == 55);
                put(new Slot(pointing(op == 55, element), s.origins, true));
                break;
            case 56:
                take(element);
                s = takeReference(vector, true);
                need(isSole(s, now.live()), 6);
                break;
            case 57:
                s = takeReference(vector, true);
                need(isSole(s, now.live()), 6);
                put(element);
                break;
            default:
                take(LONG);
                take(LONG);
                s = takeReference(vector, true);
                need(isSole(s, now.live()), 6);
                break;
        }
    }
}
