import java.util.ArrayList;
import java.util.HashMap;
import java.util.List;
import java.util.Map;
import java.util.Random;

/** Makes or spoils the code of one function by chance, for ModelMaker. */
final class ModelCode {
    /** Operations that take and put much the same. */
    private static final int[][] FAMILIES = {{11, 12}, {14, 15}, {16, 17}, {54, 55}, {50, 51}, {3, 4}, {2, 35}, {53, 57},
        {20, 35}, {11, 12, 14, 15}, {0, 13}, {1, 45, 2}, {48, 49, 50, 51}};
    private static final long[] ODD = {0, 1, 4, 5, 7, 8, 63, 64, 127, 128, 255, 256, 1000, 100000, -1, -2,
        Long.MIN_VALUE, Long.MAX_VALUE, 1L << 32};
    private static final int CODE_MOST = 400;

    private final Random random;
    private final ModelModule m;
    private final ModelModule.Function f;
    private final List<List<Integer>> locals;
    private final ModelLook looking;
    private ModelLook.State now;
    private boolean flowing = true;
    // A branch's operand is a label until the function is finished.
    private final List<ModelModule.Instruction> code = new ArrayList<>();
    private final Map<Integer, ModelLook.State> waiting = new HashMap<>();
    private final Map<Integer, ModelLook.State> passed = new HashMap<>();
    private final Map<Integer, Integer> positions = new HashMap<>();
    private int labels;

    ModelCode(Random random, ModelModule m, ModelModule.Function f) {
        this.random = random;
        this.m = m;
        this.f = f;
        locals = f.locals();
        looking = new ModelLook(m, f);
        now = looking.first();
    }

    private boolean chance(int percent) {
        return random.nextInt(100) < percent;
    }

    private <T> T any(List<T> list) {
        return list.get(random.nextInt(list.size()));
    }

    void make() {
        int budget = 4 + random.nextInt(chance(10) ? 120 : 40);
        for (int n = 0; n < budget && (flowing || placeLabel()); n++) {
            wander();
        }
        for (int n = 0; n < 200 && (flowing || placeLabel()); n++) {
            close();
        }
        for (ModelModule.Instruction i : code) {
            boolean branches = i.op() >= 2 && i.op() <= 4;
            f.code.add(branches ? instruction(i.op(), positions.getOrDefault(i.a(), 0)) : i);
        }
        if (f.code.isEmpty()) {
            f.code.add(instruction(35, 0));
        }
    }

    private static ModelModule.Instruction instruction(int op, int a) {
        return new ModelModule.Instruction(op, a, 0, 0, 0);
    }

    private void wander() {
        int kind = random.nextInt(100);
        boolean empty = now.stack.isEmpty();
        if (empty && kind < 12) {
            branch();
        } else if (empty && kind < 18 && !waiting.isEmpty()) {
            placeLabel();
        } else if (empty && kind < 22) {
            passed.put(labels, now.copy());
            positions.put(labels++, code.size());
        } else if (kind < 40) {
            produce(anyType(), 3);
        } else if (kind < 70) {
            addWithOperands(anyInstruction());
        } else if (kind < 80 && !empty) {
            consume();
        } else if (kind < 81) {
            close();
        } else {
            boolean added = false;
            for (int tries = 0; tries < 25 && !added; tries++) {
                added = add(anyInstruction());
            }
        }
    }

    private List<Integer> anyType() {
        if (!locals.isEmpty() && chance(40)) {
            return any(locals);
        }
        ModelModule.Function g = any(m.functions);
        if (!g.takes.isEmpty() && chance(50)) {
            return any(g.takes);
        }
        if (m.ownStructures > 0 && chance(40)) {
            return List.of(6, random.nextInt(m.ownStructures));
        }
        return chance(50) ? any(m.elements) : List.of(1 + random.nextInt(5));
    }

    /** Adds an instruction, no branch, if looking finds no fault at it. */
    private boolean add(ModelModule.Instruction i) {
        if (i == null || code.size() > CODE_MOST) {
            return false;
        }
        ModelLook.State after = now.copy();
        try {
            looking.operate(after, i);
        } catch (ModelLook.Wrong w) {
            return false;
        }
        code.add(i);
        now = after;
        flowing = i.op() != 1 && i.op() != 45;
        return true;
    }

    private boolean add(int op, int a) {
        return add(instruction(op, a));
    }

    private long oddNumber() {
        return chance(50) ? random.nextInt(4) : chance(80) ? ODD[random.nextInt(ODD.length)] : random.nextLong();
    }

    private long oddAddress() {
        return chance(85) ? 1 + random.nextInt(4) : chance(50) ? random.nextInt(40) : oddNumber();
    }

    private int below(int count) {
        return count == 0 ? -1 : random.nextInt(count);
    }

    /** Null when there is nothing that its operand could name, and for what ends or turns the flow. */
    private ModelModule.Instruction anyInstruction() {
        int op = random.nextInt(60);
        int a = 0;
        int b = 0;
        if (op >= 1 && op <= 4 || op == 45) {
            return null;
        } else if (op == 5) {
            a = (int) oddNumber() & 255;
        } else if (op >= 11 && op <= 15) {
            a = below(locals.size());
        } else if (op == 16 || op == 17) {
            a = below(m.ownStructures);
            b = a < 0 ? 0 : below(m.structures.get(a).fields.size());
        } else if (op == 21 || op == 22 || op >= 47 && op <= 51) {
            a = below(m.ownStructures);
        } else if (op == 23) {
            a = below(m.functions.size());
        } else if (op >= 52 && op <= 58) {
            a = below(m.elements.size());
            b = op == 52 ? random.nextInt(chance(95) ? 4 : 65) : 0;
        }
        if (a < 0) {
            return null;
        }
        long low = op == 6 || op == 7 ? oddNumber() : op == 10 ? oddAddress() : 0;
        return new ModelModule.Instruction(op, a, b, op == 7 ? oddNumber() : 0, low);
    }

    private void addWithOperands(ModelModule.Instruction i) {
        boolean fine = i != null;
        for (List<Integer> t : fine ? operands(i) : List.<List<Integer>>of()) {
            fine = fine && produce(t, 3);
        }
        if (fine) {
            add(i);
        }
    }

    /** What an operation takes, the topmost one last. */
    private List<List<Integer>> operands(ModelModule.Instruction i) {
        int op = i.op();
        List<Integer> number = List.of(2 + random.nextInt(3));
        List<Integer> some = anyType();
        List<Integer> one = ModelModule.isReference(some) ? some.subList(1, some.size()) : some;
        if (op == 16 || op == 17) {
            return List.of(List.of(op - 8, 6, i.a()));
        } else if (op == 18) {
            return List.of(ModelModule.behind(chance(50) ? 8 : 9, one));
        } else if (op == 19) {
            return List.of(one, ModelModule.behind(9, one));
        } else if (op == 20) {
            return List.of(ModelModule.behind(9, one));
        } else if (op == 21) {
            return m.structures.get(i.a()).fields;
        } else if (op == 22 || op == 47) {
            return List.of(List.of(6, i.a()));
        } else if (op == 23) {
            return m.functions.get(i.a()).takes;
        } else if (op >= 24 && op <= 31 || op >= 38 && op <= 41) {
            return List.of(number, number);
        } else if (op == 32 || op == 33) {
            return List.of(number, List.of(2));
        } else if (op == 36 || op == 37) {
            return List.of(one, one);
        } else if (op >= 42 && op <= 44) {
            return List.of(number);
        } else if (op >= 48 && op <= 51) {
            return List.of(List.of(5));
        } else if (op == 59) {
            return List.of(List.of(7, 2));
        }
        return op >= 53 && op <= 58 ? vectorOperands(op, m.elements.get(i.a())) : List.of();
    }

    private static List<List<Integer>> vectorOperands(int op, List<Integer> element) {
        List<Integer> reference = ModelModule.behind(op <= 54 ? 8 : 9, ModelModule.behind(7, element));
        List<Integer> index = List.of(3);
        switch (op) {
            case 54:
            case 55:
                return List.of(reference, index);
            case 56:
                return List.of(reference, element);
            case 58:
                return List.of(reference, index, index);
            default:
                return List.of(reference);
        }
    }

    /** Brings a value of a type onto the stack, if a way is found. */
    private boolean produce(List<Integer> type, int depth) {
        for (int k = 0; k < locals.size() && chance(70); k++) {
            if (locals.get(k).equals(type) && (chance(50) && add(11, k) || add(12, k))) {
                return true;
            }
        }
        int head = type.get(0);
        if (head <= 5) {
            return produceNumber(head);
        }
        if (depth == 0) {
            return false;
        }
        if (head == 6 && type.get(1) < m.ownStructures && chance(80)) {
            return produceStructure(type.get(1), depth);
        }
        if (head == 7 && produceVector(type, depth)) {
            return true;
        }
        return head >= 8 ? produceReference(type, depth) : produceByCall(type, depth);
    }

    private boolean produceNumber(int kind) {
        switch (kind) {
            case 1:
                return add(chance(50) ? 8 : 9, 0);
            case 2:
                return add(5, (int) oddNumber() & 255);
            case 3:
                return add(new ModelModule.Instruction(6, 0, 0, 0, oddNumber()));
            case 4:
                return add(new ModelModule.Instruction(7, 0, 0, oddNumber(), oddNumber()));
            default:
                return chance(40) ? add(46, 0) : add(new ModelModule.Instruction(10, 0, 0, 0, oddAddress()));
        }
    }

    private boolean produceStructure(int s, int depth) {
        if ((m.structures.get(s).abilities & 8) != 0 && chance(30) && add(46, 0)) {
            return add(48, s);
        }
        for (List<Integer> t : m.structures.get(s).fields) {
            if (!produce(t, depth - 1)) {
                return false;
            }
        }
        return add(21, s);
    }

    private boolean produceVector(List<Integer> type, int depth) {
        List<Integer> element = type.subList(1, type.size());
        int e = m.elements.indexOf(element);
        if (e < 0) {
            return false;
        }
        int count = random.nextInt(4);
        int made = 0;
        while (made < count && produce(element, depth - 1)) {
            made++;
        }
        return add(new ModelModule.Instruction(52, e, made, 0, 0));
    }

    private boolean produceReference(List<Integer> type, int depth) {
        List<Integer> to = type.subList(1, type.size());
        boolean writing = type.get(0) == ModelModule.WRITING;
        if (to.get(0) == 6 && to.get(1) < m.ownStructures && chance(40) && add(46, 0)) {
            if (add(writing ? 51 : 50, to.get(1))) {
                return true;
            }
            add(0, 0);
        }
        for (int k = 0; k < locals.size(); k++) {
            if (!locals.get(k).equals(to)) {
                continue;
            }
            if (now.locals[k] == null && produce(to, depth - 1)) {
                add(13, k);
            }
            if (add(writing ? 15 : 14, k)) {
                return true;
            }
        }
        return false;
    }

    private boolean produceByCall(List<Integer> type, int depth) {
        for (int k = 0; k < m.functions.size(); k++) {
            ModelModule.Function g = m.functions.get(k);
            if (!g.gives.contains(type) || chance(40)) {
                continue;
            }
            boolean fine = true;
            for (List<Integer> t : g.takes) {
                fine = fine && produce(t, depth - 1);
            }
            if (fine && add(23, k)) {
                return true;
            }
        }
        return false;
    }

    /** Takes the topmost value from the stack, if a way is found. */
    private boolean consume() {
        List<Integer> type = now.stack.get(now.stack.size() - 1).type();
        boolean own = type.get(0) == 6 && type.get(1) < m.ownStructures;
        if (own && chance(50) && add(47, type.get(1))) {
            return true;
        }
        for (int k = 0; k < locals.size() && chance(80); k++) {
            if (add(13, k)) {
                return true;
            }
        }
        if (add(0, 0)) {
            return true;
        }
        for (int k = 0; k < m.functions.size(); k++) {
            if (m.functions.get(k).takes.size() == 1 && add(23, k)) {
                return true;
            }
        }
        return own && add(22, type.get(1));
    }

    private void branch() {
        int op = 2 + random.nextInt(3);
        if (op != 2 && !produce(List.of(1), 2)) {
            return;
        }
        ModelLook.State after = now.copy();
        try {
            looking.operate(after, instruction(op, 0));
            code.add(instruction(op, label(after)));
        } catch (ModelLook.Wrong w) {
            return;
        }
        now = after;
        flowing = op != 2;
    }

    /** A label that a branch may lead to with this state. */
    private int label(ModelLook.State with) {
        if (!passed.isEmpty() && chance(30)) {
            int l = any(new ArrayList<>(passed.keySet()));
            looking.comeBack(with, passed.get(l));
            return l;
        }
        int l = waiting.isEmpty() || chance(60) ? labels++ : any(new ArrayList<>(waiting.keySet()));
        ModelLook.State joined = waiting.getOrDefault(l, with).copy();
        looking.join(joined, with);
        waiting.put(l, joined);
        return l;
    }

    /** Makes a label that branches wait for stand here, so that the flow goes on. */
    private boolean placeLabel() {
        if (waiting.isEmpty()) {
            return false;
        }
        int l = any(new ArrayList<>(waiting.keySet()));
        ModelLook.State joined = waiting.get(l).copy();
        try {
            looking.join(joined, flowing ? now : joined);
        } catch (ModelLook.Wrong w) {
            return false;
        }
        waiting.remove(l);
        now = joined;
        flowing = true;
        positions.put(l, code.size());
        if (chance(50)) {
            passed.put(l, now.copy());
        }
        return true;
    }

    /** Ends the flow: by RETURN if that can be, else by ABORT. */
    private void close() {
        for (int n = 0; n < 70 && !now.stack.isEmpty() && !chance(1) && consume(); n++) {
            continue;
        }
        for (int k = 0; k < now.locals.length && now.stack.isEmpty(); k++) {
            if (now.locals[k] != null && !m.has(now.locals[k].type(), 2)) {
                emptyLocal(k);
            }
        }
        boolean fine = now.stack.isEmpty();
        for (List<Integer> t : f.gives) {
            fine = fine && produce(t, 3);
        }
        if (fine && add(1, 0)) {
            return;
        }
        if (!add(new ModelModule.Instruction(6, 0, 0, 0, oddNumber())) || !add(45, 0)) {
            flowing = false;
        }
    }

    private void emptyLocal(int k) {
        List<List<Integer>> deposit = List.of(List.of(5), now.locals[k].type());
        for (int g = 0; g < m.functions.size(); g++) {
            if (m.functions.get(g).takes.equals(deposit) && add(46, 0) && add(12, k) && add(23, g)) {
                return;
            }
        }
        if (add(12, k)) {
            for (int n = 0; n < 20 && !now.stack.isEmpty() && consume(); n++) {
                continue;
            }
        }
    }

    /** Changes, adds or takes away an instruction of finished code. */
    void spoil() {
        int i = random.nextInt(f.code.size());
        if (chance(60)) {
            ModelModule.Instruction was = f.code.get(i);
            for (int n = 0; n < 10 && f.code.get(i).equals(was); n++) {
                i = random.nextInt(f.code.size());
                was = f.code.get(i);
                f.code.set(i, sibling(was));
            }
            return;
        }
        ModelModule.Instruction other = anyInstruction();
        if (chance(15)) {
            other = instruction(2 + random.nextInt(3), random.nextInt(f.code.size() + 1));
        } else if (other == null) {
            other = instruction(chance(60) ? 1 : 45, 0);
        }
        int how = random.nextInt(4);
        if (how == 0) {
            f.code.add(i, other);
        } else if (how == 1 && f.code.size() > 1) {
            f.code.remove(i);
        } else {
            f.code.set(i, other);
        }
    }

    private ModelModule.Instruction sibling(ModelModule.Instruction i) {
        int op = i.op();
        int[] family = FAMILIES[random.nextInt(FAMILIES.length)];
        for (int one : family) {
            if (one == i.op()) {
                op = family[random.nextInt(family.length)];
            }
        }
        int a = i.a();
        if (op >= 11 && op <= 15) {
            int k = locals.isEmpty() ? 0 : random.nextInt(locals.size());
            boolean like = i.op() >= 11 && i.op() <= 15 && k < locals.size() && locals.get(k).equals(locals.get(a));
            a = like || i.op() == 0 ? k : a;
        } else if (op >= 2 && op <= 4) {
            a = chance(50) ? random.nextInt(f.code.size()) : a;
        }
        return new ModelModule.Instruction(op, a, i.b(), i.high(), i.low());
    }
}
