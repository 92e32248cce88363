import java.util.ArrayList;
import java.util.HashSet;
import java.util.List;
import java.util.Map;
import java.util.Set;
import java.util.TreeMap;

/** A module by the document's words (parts 1 to 3 up to fault 25), written plainly to hold the class against. */
final class ModelModule {
    static final int REFERENCE = 8;
    static final int WRITING = 9;

    /** Why a module is not taken, and where. */
    static final class Fault extends RuntimeException {
        private static final long serialVersionUID = 1;
        final int why;
        final int place;

        Fault(int why, int place) {
            super(null, null, false, false);
            this.why = why;
            this.place = place;
        }
    }

    /** A structure, its own or a foreign one: what it is, and what is told of it here. */
    static final class Structure {
        int module;
        int number;
        int abilities;
        int place;
        int depth;
        final List<List<Integer>> fields = new ArrayList<>();
    }

    /** A function, its own or a foreign one. */
    static final class Function {
        int module;
        int number;
        int flags;
        List<List<Integer>> takes = new ArrayList<>();
        List<List<Integer>> gives = new ArrayList<>();
        List<List<Integer>> further = new ArrayList<>();
        final List<Instruction> code = new ArrayList<>();

        List<List<Integer>> locals() {
            List<List<Integer>> all = new ArrayList<>(takes);
            all.addAll(further);
            return all;
        }
    }

    /** An operation, its operands that are bytes or SHORTS, and those that are LONGS. */
    record Instruction(int op, int a, int b, long high, long low) {
    }

    final byte[] bytes;
    int number;
    int ownStructures;
    final List<Structure> structures = new ArrayList<>();
    int ownFunctions;
    final List<Function> functions = new ArrayList<>();
    final List<List<Integer>> elements = new ArrayList<>();
    private int at;
    // What can be judged only when the whole module was read, in the order of its bytes.
    private final List<Runnable> later = new ArrayList<>();

    ModelModule(byte[] bytes) {
        this.bytes = bytes;
    }

    /** Part 5, in the form of a module. */
    static ModelModule coin() {
        ModelModule m = new ModelModule(new byte[0]);
        Structure coin = new Structure();
        coin.abilities = 4;
        coin.depth = 2;
        coin.fields.add(List.of(3));
        m.structures.add(coin);
        m.ownStructures = 1;
        List<Integer> c = List.of(6, 0);
        m.addCoinFunction(List.of(List.of(3)), List.of(c));
        m.addCoinFunction(List.of(List.of(5), c), List.of());
        m.addCoinFunction(List.of(List.of(8, 6, 0)), List.of(List.of(3)));
        m.addCoinFunction(List.of(c, c), List.of(c));
        m.addCoinFunction(List.of(c, List.of(3)), List.of(c, c));
        m.addCoinFunction(List.of(List.of(5)), List.of(List.of(3)));
        return m;
    }

    private void addCoinFunction(List<List<Integer>> takes, List<List<Integer>> gives) {
        Function f = new Function();
        f.number = ownFunctions++;
        f.flags = 1;
        f.takes = takes;
        f.gives = gives;
        functions.add(f);
    }

    /** Faults 1 to 14. */
    void read() {
        for (int due : new int[] {82, 76, 77, 49}) {
            if (next() != due) {
                throw new Fault(1, at - 1);
            }
        }
        number = nextShort();
        readStructures();
        readForeignStructures();
        List<Function> foreign = readForeignFunctions();
        int count = bounded(0, 32);
        for (int k = 0; k < count; k++) {
            elements.add(readType(false));
        }
        readFunctions();
        functions.addAll(foreign);
        if (at < bytes.length) {
            throw new Fault(6, at);
        }
        later.forEach(Runnable::run);
        for (int s = 0; s < ownStructures; s++) {
            if (reaches(s, s, new HashSet<>())) {
                throw new Fault(14, structures.get(s).place);
            }
        }
    }

    private int next() {
        if (at >= bytes.length) {
            throw new Fault(2, bytes.length);
        }
        return bytes[at++] & 255;
    }

    private int nextShort() {
        return next() * 256 + next();
    }

    private long nextLong() {
        long n = 0;
        for (int i = 0; i < 8; i++) {
            n = n * 256 + next();
        }
        return n;
    }

    private int bounded(int least, int most) {
        int n = next();
        if (n < least || n > most) {
            throw new Fault(3, at - 1);
        }
        return n;
    }

    private void readStructures() {
        ownStructures = bounded(0, 32);
        for (int k = 0; k < ownStructures; k++) {
            Structure s = new Structure();
            s.module = number;
            s.number = k;
            s.place = at;
            s.abilities = bounded(0, 15);
            int fields = bounded(1, 16);
            for (int i = 0; i < fields; i++) {
                s.fields.add(readType(false));
            }
            structures.add(s);
        }
    }

    private void readForeignStructures() {
        int count = bounded(0, 32);
        for (int k = 0; k < count; k++) {
            Structure s = new Structure();
            s.module = nextShort();
            s.number = next();
            s.abilities = bounded(0, 15);
            structures.add(s);
        }
    }

    private List<Function> readForeignFunctions() {
        List<Function> foreign = new ArrayList<>();
        int count = bounded(0, 32);
        for (int k = 0; k < count; k++) {
            Function f = new Function();
            f.module = nextShort();
            f.number = next();
            f.flags = bounded(0, 7);
            f.takes = readList(8);
            f.gives = readList(8);
            foreign.add(f);
        }
        return foreign;
    }

    private void readFunctions() {
        ownFunctions = bounded(0, 64);
        int all = 0;
        for (int k = 0; k < ownFunctions; k++) {
            Function f = new Function();
            f.module = number;
            f.number = k;
            f.flags = bounded(0, 7);
            f.takes = readList(8);
            f.gives = readList(8);
            f.further = readList(32);
            int place = at;
            int count = nextShort();
            all += count;
            if (count < 1 || count > 1024 || all > 8192) {
                throw new Fault(3, place);
            }
            for (int i = 0; i < count; i++) {
                f.code.add(readInstruction(f.locals().size(), count));
            }
            functions.add(f);
        }
    }

    private List<List<Integer>> readList(int most) {
        List<List<Integer>> list = new ArrayList<>();
        int count = bounded(0, most);
        for (int k = 0; k < count; k++) {
            list.add(readType(true));
        }
        return list;
    }

    private List<Integer> readType(boolean inList) {
        List<Integer> t = new ArrayList<>();
        int b = next();
        if (inList && (b == REFERENCE || b == WRITING)) {
            t.add(b);
            b = next();
        }
        for (int sevens = 0; b == 7; sevens++) {
            if (sevens == 4) {
                throw new Fault(4, at - 1);
            }
            t.add(b);
            b = next();
        }
        if (b < 1 || b > 6) {
            throw new Fault(4, at - 1);
        }
        t.add(b);
        if (b == 6) {
            t.add(readNumber(7, () -> structures.size()));
        }
        return t;
    }

    /** Something that is told later: how many there are. */
    private interface Count {
        int many();
    }

    private int readNumber(int why, Count count) {
        int place = at;
        int n = next();
        later.add(() -> judge(n < count.many(), why, place));
        return n;
    }

    private static void judge(boolean fine, int why, int place) {
        if (!fine) {
            throw new Fault(why, place);
        }
    }

    private Instruction readInstruction(int locals, int count) {
        int op = next();
        switch (op) {
            case 5:
                return new Instruction(op, next(), 0, 0, 0);
            case 11: case 12: case 13: case 14: case 15:
                return new Instruction(op, readNumber(10, () -> locals), 0, 0, 0);
            case 21: case 22: case 47: case 48: case 49: case 50: case 51:
                return new Instruction(op, readOwnStructure(), 0, 0, 0);
            case 23:
                return new Instruction(op, readNumber(11, () -> functions.size()), 0, 0, 0);
            case 53: case 54: case 55: case 56: case 57: case 58:
                return new Instruction(op, readNumber(12, () -> elements.size()), 0, 0, 0);
            case 16: case 17:
                int s = readOwnStructure();
                return new Instruction(op, s, readNumber(9, () -> structures.get(s).fields.size()), 0, 0);
            case 52:
                int e = readNumber(12, () -> elements.size());
                return new Instruction(op, e, bounded(0, 64), 0, 0);
            case 2: case 3: case 4:
                int place = at;
                int to = nextShort();
                later.add(() -> judge(to < count, 13, place));
                return new Instruction(op, to, 0, 0, 0);
            case 6: case 10:
                return new Instruction(op, 0, 0, 0, nextLong());
            case 7:
                long high = nextLong();
                return new Instruction(op, 0, 0, high, nextLong());
            default:
                if (op > 59) {
                    throw new Fault(5, at - 1);
                }
                return new Instruction(op, 0, 0, 0, 0);
        }
    }

    private int readOwnStructure() {
        int place = at;
        int s = readNumber(7, () -> structures.size());
        later.add(() -> judge(s < ownStructures, 8, place));
        return s;
    }

    private boolean reaches(int from, int goal, Set<Integer> seen) {
        for (List<Integer> field : structures.get(from).fields) {
            Integer inner = structureOf(field);
            if (inner == null || inner >= ownStructures) {
                continue;
            }
            if (inner == goal || seen.add(inner) && reaches(inner, goal, seen)) {
                return true;
            }
        }
        return false;
    }

    /** The number of the structure at the end of a type; null when there is none. */
    static Integer structureOf(List<Integer> type) {
        int n = type.size();
        return n >= 2 && type.get(n - 2) == 6 ? type.get(n - 1) : null;
    }

    static List<Integer> behind(int first, List<Integer> type) {
        List<Integer> t = new ArrayList<>(List.of(first));
        t.addAll(type);
        return t;
    }

    static boolean isReference(List<Integer> t) {
        return t.get(0) == REFERENCE || t.get(0) == WRITING;
    }

    /** The type with its structure told by what it is. */
    List<Integer> identity(List<Integer> type) {
        Integer s = structureOf(type);
        List<Integer> told = new ArrayList<>(type);
        if (s != null) {
            told.remove(told.size() - 1);
            told.add(structures.get(s).module);
            told.add(structures.get(s).number);
        }
        return told;
    }

    int abilities(List<Integer> type) {
        if (isReference(type)) {
            return 3;
        }
        if (type.get(0) == 7) {
            return abilities(type.subList(1, type.size())) & 7;
        }
        return type.get(0) == 6 ? structures.get(type.get(1)).abilities : 7;
    }

    boolean has(List<Integer> type, int ability) {
        return (abilities(type) & ability) != 0;
    }

    /** Faults 21 to 25. */
    void fit(TreeMap<Integer, ModelModule> there) {
        if (number == 0 || there.containsKey(number)) {
            throw new Fault(21, 4);
        }
        for (int k = ownStructures; k < structures.size(); k++) {
            Structure s = structures.get(k);
            ModelModule home = there.get(s.module);
            if (home == null || s.number >= home.ownStructures
                    || home.structures.get(s.number).abilities != s.abilities) {
                throw new Fault(22, k - ownStructures);
            }
            s.depth = home.structures.get(s.number).depth;
        }
        for (int k = ownFunctions; k < functions.size(); k++) {
            if (!isAsTold(functions.get(k), there)) {
                throw new Fault(23, k - ownFunctions);
            }
        }
        for (int k = 0; k < ownStructures; k++) {
            if (!bears(structures.get(k))) {
                throw new Fault(24, k);
            }
        }
        for (int k = 0; k < ownStructures; k++) {
            if (depth(List.of(6, k)) > 24) {
                throw new Fault(25, k);
            }
        }
    }

    private boolean isAsTold(Function f, Map<Integer, ModelModule> there) {
        ModelModule home = there.get(f.module);
        if (home == null || f.number >= home.ownFunctions) {
            return false;
        }
        Function other = home.functions.get(f.number);
        return (other.flags & 1) != 0 && (other.flags & 4) == (f.flags & 4)
            && f.takes.stream().map(this::identity).toList().equals(other.takes.stream().map(home::identity).toList())
            && f.gives.stream().map(this::identity).toList().equals(other.gives.stream().map(home::identity).toList());
    }

    private boolean bears(Structure s) {
        for (List<Integer> field : s.fields) {
            for (int ability : new int[] {1, 2, 4}) {
                if ((s.abilities & ability) != 0 && !has(field, ability)) {
                    return false;
                }
            }
            if ((s.abilities & 8) != 0 && !has(field, 4)) {
                return false;
            }
        }
        return true;
    }

    private int depth(List<Integer> type) {
        if (type.get(0) == 7) {
            return 1 + depth(type.subList(1, type.size()));
        }
        if (type.get(0) != 6) {
            return 1;
        }
        Structure s = structures.get(type.get(1));
        if (s.depth == 0) {
            int most = 0;
            for (List<Integer> field : s.fields) {
                most = Math.max(most, depth(field));
            }
            s.depth = 1 + most;
        }
        return s.depth;
    }
}
