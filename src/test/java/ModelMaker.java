import java.io.ByteArrayOutputStream;
import java.util.ArrayList;
import java.util.List;
import java.util.Random;
import java.util.TreeMap;

/**
 * Makes modules by chance for ModelTest. Most instructions are tried by the model's looking before they
 * are added, so that many modules are taken; others are made by spoiling these.
 */
final class ModelMaker {
    private final Random random;
    private final TreeMap<Integer, ModelModule> there;
    private ModelModule m;
    // Few types make many references that meet; null while all types are to be used.
    private List<List<Integer>> palette;

    ModelMaker(Random random, TreeMap<Integer, ModelModule> there) {
        this.random = random;
        this.there = there;
    }

    private boolean chance(int percent) {
        return random.nextInt(100) < percent;
    }

    private <T> T any(List<T> list) {
        return list.get(random.nextInt(list.size()));
    }

    byte[] make(int number) {
        m = new ModelModule(new byte[0]);
        m.number = number;
        palette = null;
        makeStructures();
        List<ModelModule.Function> foreign = foreignFunctions();
        palette = chance(60) ? fewTypes() : null;
        int elements = 1 + random.nextInt(5);
        for (int k = 0; k < elements; k++) {
            m.elements.add(someType());
        }
        m.ownFunctions = 1 + random.nextInt(4);
        for (int k = 0; k < m.ownFunctions; k++) {
            m.functions.add(signature(k));
        }
        m.functions.addAll(foreign);
        for (int k = 0; k < m.ownFunctions; k++) {
            new ModelCode(random, m, m.functions.get(k)).make();
        }
        return encode(m);
    }

    private List<List<Integer>> fewTypes() {
        List<List<Integer>> few = new ArrayList<>(List.of(someType(), someType()));
        if (m.ownStructures > 0) {
            int s = random.nextInt(m.ownStructures);
            few.add(List.of(6, s));
            few.add(any(m.structures.get(s).fields));
        }
        return few;
    }

    private List<Integer> someType() {
        if (palette != null && chance(90)) {
            return any(palette);
        }
        List<Integer> t = new ArrayList<>();
        while (chance(20) && t.size() < 4) {
            t.add(7);
        }
        if (!m.structures.isEmpty() && chance(45)) {
            t.add(6);
            t.add(random.nextInt(m.structures.size()));
        } else {
            t.add(1 + random.nextInt(5));
        }
        return t;
    }

    private List<Integer> someListType(int percent) {
        return chance(percent) ? ModelModule.behind(chance(60) ? 9 : 8, someType()) : someType();
    }

    private void makeStructures() {
        m.ownStructures = random.nextInt(5);
        for (int k = 0; k < m.ownStructures; k++) {
            addStructure(m.number, k, 0);
        }
        for (ModelModule home : there.values()) {
            for (int k = 0; k < home.ownStructures; k++) {
                if (chance(60)) {
                    addForeignStructure(home, k);
                }
            }
        }
        // Fields come last, so that foreign structures can be among them.
        for (int k = 0; k < m.ownStructures; k++) {
            makeFields(k);
        }
    }

    private ModelModule.Structure addStructure(int module, int number, int abilities) {
        ModelModule.Structure s = new ModelModule.Structure();
        s.module = module;
        s.number = number;
        s.abilities = abilities;
        m.structures.add(s);
        return s;
    }

    private int addForeignStructure(ModelModule home, int number) {
        int abilities = home.structures.get(number).abilities;
        addStructure(home.number, number, chance(1) ? abilities ^ 1 << random.nextInt(4) : abilities);
        return m.structures.size() - 1;
    }

    private void makeFields(int own) {
        ModelModule.Structure s = m.structures.get(own);
        int most = 15;
        int count = 1 + random.nextInt(chance(10) ? 16 : 3);
        for (int i = 0; i < count; i++) {
            List<Integer> t = someType();
            Integer inner = ModelModule.structureOf(t);
            if (inner != null && inner < m.ownStructures && inner >= own && !chance(1)) {
                t = List.of(3);
            }
            s.fields.add(t);
            int has = m.abilities(t) & 7;
            most &= has | ((has & 4) != 0 ? 8 : 0);
        }
        s.abilities = chance(3) ? random.nextInt(16) : chance(60) ? most : most & random.nextInt(16);
    }

    private List<ModelModule.Function> foreignFunctions() {
        List<ModelModule.Function> list = new ArrayList<>();
        for (ModelModule home : there.values()) {
            for (ModelModule.Function other : home.functions.subList(0, home.ownFunctions)) {
                if (list.size() < 30 && chance(70) && ((other.flags & 1) != 0 || chance(2))) {
                    ModelModule.Function g = new ModelModule.Function();
                    g.module = home.number;
                    g.number = other.number;
                    g.flags = other.flags;
                    other.takes.forEach(t -> g.takes.add(typeHere(home, t)));
                    other.gives.forEach(t -> g.gives.add(typeHere(home, t)));
                    list.add(g);
                }
            }
        }
        return list;
    }

    /** Another module's type in this one's numbers. */
    private List<Integer> typeHere(ModelModule home, List<Integer> type) {
        Integer s = ModelModule.structureOf(type);
        if (s == null) {
            return type;
        }
        ModelModule.Structure due = home.structures.get(s);
        int number = -1;
        for (int k = m.ownStructures; k < m.structures.size(); k++) {
            ModelModule.Structure x = m.structures.get(k);
            number = x.module == due.module && x.number == due.number ? k : number;
        }
        List<Integer> t = new ArrayList<>(type.subList(0, type.size() - 1));
        t.add(number >= 0 ? number : addForeignStructure(there.get(due.module), due.number));
        return t;
    }

    private ModelModule.Function signature(int number) {
        ModelModule.Function g = new ModelModule.Function();
        g.module = m.number;
        g.number = number;
        g.flags = random.nextInt(8) | (chance(60) ? 4 : 0) | (chance(60) ? 2 : 0);
        boolean plain = (g.flags & 2) != 0 && chance(85);
        int takes = random.nextInt(4);
        int gives = random.nextInt(3);
        int further = random.nextInt(8);
        for (int k = 0; k < takes; k++) {
            g.takes.add(plain ? List.of(1 + random.nextInt(5)) : someListType(50));
        }
        for (int k = 0; k < gives; k++) {
            g.gives.add(plain ? List.of(1 + random.nextInt(5)) : someListType(30));
        }
        for (int k = 0; k < further; k++) {
            List<Integer> element = any(m.elements);
            boolean row = chance(40) && element.get(0) != 7;
            g.further.add(row ? ModelModule.behind(7, element) : someListType(35));
        }
        return g;
    }

    /** The module made latest, with one or two things in it changed. */
    byte[] spoil() {
        return spoil(1 + random.nextInt(2));
    }

    byte[] spoil(int times) {
        byte[] whole = encode(m);
        ModelModule made = m;
        m = new ModelModule(whole);
        try {
            m.read();
            for (int k = 0; k < times; k++) {
                ModelModule.Function f = m.functions.get(random.nextInt(m.ownFunctions));
                new ModelCode(random, m, f).spoil();
            }
            if (chance(15)) {
                spoilTypes();
            }
            whole = encode(m);
        } catch (ModelModule.Fault fault) {
            // Some are faulty as they were made.
        }
        if (chance(15)) {
            whole[random.nextInt(whole.length)] = (byte) random.nextInt(chance(50) ? 12 : 256);
        }
        m = made;
        return whole;
    }

    private void spoilTypes() {
        ModelModule.Function g = any(m.functions);
        List<List<Integer>> list = chance(40) ? g.takes : chance(50) ? g.gives : g.further;
        if (!list.isEmpty()) {
            list.set(random.nextInt(list.size()), someListType(40));
        } else if (m.ownStructures > 0) {
            m.structures.get(random.nextInt(m.ownStructures)).abilities = random.nextInt(16);
        }
    }

    static byte[] encode(ModelModule m) {
        ByteArrayOutputStream out = new ByteArrayOutputStream();
        out.writeBytes(Assembly.bytes(82, 76, 77, 49, m.number >> 8, m.number, m.ownStructures));
        for (ModelModule.Structure s : m.structures.subList(0, m.ownStructures)) {
            out.write(s.abilities);
            writeList(out, s.fields);
        }
        out.write(m.structures.size() - m.ownStructures);
        for (ModelModule.Structure s : m.structures.subList(m.ownStructures, m.structures.size())) {
            out.writeBytes(Assembly.bytes(s.module >> 8, s.module, s.number, s.abilities));
        }
        out.write(m.functions.size() - m.ownFunctions);
        for (ModelModule.Function g : m.functions.subList(m.ownFunctions, m.functions.size())) {
            out.writeBytes(Assembly.bytes(g.module >> 8, g.module, g.number, g.flags));
            writeList(out, g.takes);
            writeList(out, g.gives);
        }
        writeList(out, m.elements);
        out.write(m.ownFunctions);
        for (ModelModule.Function g : m.functions.subList(0, m.ownFunctions)) {
            out.write(g.flags);
            writeList(out, g.takes);
            writeList(out, g.gives);
            writeList(out, g.further);
            out.writeBytes(Assembly.bytes(g.code.size() >> 8, g.code.size()));
            g.code.forEach(i -> write(out, i));
        }
        return out.toByteArray();
    }

    private static void writeList(ByteArrayOutputStream out, List<List<Integer>> types) {
        out.write(types.size());
        for (List<Integer> t : types) {
            t.forEach(out::write);
        }
    }

    private static void write(ByteArrayOutputStream out, ModelModule.Instruction i) {
        int op = i.op();
        out.write(op);
        if (op >= 2 && op <= 4) {
            out.writeBytes(Assembly.bytes(i.a() >> 8, i.a()));
        } else if (op == 6 || op == 10) {
            out.writeBytes(RootModel.longs(i.low()));
        } else if (op == 7) {
            out.writeBytes(RootModel.longs(i.high(), i.low()));
        } else if (op == 16 || op == 17 || op == 52) {
            out.writeBytes(Assembly.bytes(i.a(), i.b()));
        } else if (op == 5 || op >= 11 && op <= 15 || op >= 21 && op <= 23 || op >= 47 && op <= 58) {
            out.write(i.a());
        }
    }
}
