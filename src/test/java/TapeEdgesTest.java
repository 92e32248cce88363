import java.util.Arrays;

/**
 * Part 1 of the document, sentence by sentence: how many there may be of each, what each number
 * may be, and in which order faults 1 to 14 are told. Sentences of the document stand in quotes.
 */
final class TapeEdgesTest {
    private static final int STRUCTURES = 0;
    private static final int FOREIGN_STRUCTURES = 1;
    private static final int FOREIGN_FUNCTIONS = 2;
    private static final int ELEMENTS = 3;
    private static final int FUNCTIONS = 4;

    private TapeEdgesTest() {
    }

    public static void main(String[] args) {
        firstBytes();
        endsEarly();
        structures();
        foreignStructures();
        foreignFunctions();
        elements();
        functions();
        lists();
        instructions();
        wholeTape();
        types();
        operations();
        operands();
        firstFaultsInOrder();
        structureNumbers();
        ownStructures();
        fieldNumbers();
        localNumbers();
        functionNumbers();
        elementNumbers();
        branches();
        laterFaultsInOrder();
        rounds();
        Check.end();
    }

    /** A module's five parts, each with its count; all of them are empty but those that are told. */
    private static byte[] parts(int part, byte[] bytes, int other, byte[] others) {
        byte[] row = Assembly.bytes(82, 76, 77, 49, 0, 7);
        for (int i = 0; i < 5; i++) {
            row = Assembly.join(row, i == part ? bytes : i == other ? others : Assembly.bytes(0));
        }
        return row;
    }

    private static byte[] part(int part, byte[] bytes) {
        return parts(part, bytes, -1, null);
    }

    /** So many, and each of them. */
    private static byte[] many(int count, int... each) {
        byte[] row = Assembly.bytes(count);
        for (int i = 0; i < count; i++) {
            row = Assembly.join(row, Assembly.bytes(each));
        }
        return row;
    }

    private static void due(String what, byte[] bytes, String want) {
        Check.due(what + " " + (bytes.length < 60 ? Arrays.toString(bytes) : ""), new Bench().publish(bytes), want);
    }

    /** A function without lists, with so many instructions told and these bytes of them. */
    private static byte[] code(int told, int... bytes) {
        return Assembly.join(Assembly.bytes(1, 7, 0, 0, 0, told >> 8, told), Assembly.bytes(bytes));
    }

    /** Where the code of a function by code() begins in a module that has nothing else. */
    private static final int CODE = 17;

    /** "1 one of the four first bytes is another one, there" */
    private static void firstBytes() {
        byte[] good = part(-1, null);
        due("the four bytes", good, "DONE");
        for (int i = 0; i < 4; i++) {
            for (int change : new int[] {-1, 1}) {
                byte[] bad = good.clone();
                bad[i] += change;
                due("another byte " + i, bad, "FAULTY 1 " + i);
                due("another byte " + i + ", the last one", Arrays.copyOf(bad, i + 1), "FAULTY 1 " + i);
            }
            byte[] two = good.clone();
            two[i] = 0;
            two[3] = 0;
            due("the first of two", two, "FAULTY 1 " + i);
        }
    }

    /** "2 the tape ends before the module does, at its length": wherever it ends. */
    private static void endsEarly() {
        byte[] whole = new Assembly(7).structure(15, "long *S0").structure(7, "wide").toBytes();
        // A structure that contains itself is told only when all can be read.
        due("all of it", whole, "FAULTY 14 7");
        byte[] module = new Assembly(7).structure(7, "long **wide").foreignStructure(0, 0, 4)
            .foreignFunction(0, 3, 1, "S1 S1", "S1").element("*S0")
            .function(2, "&!S0 long", "wide", "*S0", "wide 1 2; ret")
            .function(0, "", "", "", "vector 0 0; pop; go 3; ret").toBytes();
        due("all of another", module, "DONE");
        for (int length = 0; length < module.length; length++) {
            due("the first " + length, Arrays.copyOf(module, length), "FAULTY 2 " + length);
        }
        // "6 bytes behind the module, at the first one"
        due("one behind it", Arrays.copyOf(module, module.length + 1), "FAULTY 6 " + module.length);
        due("two behind it", Arrays.copyOf(module, module.length + 2), "FAULTY 6 " + module.length);
    }

    /** "how many STRUCTURES it has (0 .. 32)", "its ABILITIES (.. 0 .. 15)", "how many FIELDS (1 .. 16)" */
    private static void structures() {
        due("32 structures", part(STRUCTURES, many(32, 0, 1, 3)), "DONE");
        due("33 structures", part(STRUCTURES, many(33, 0, 1, 3)), "FAULTY 3 6");
        due("255 structures", part(STRUCTURES, Assembly.bytes(255)), "FAULTY 3 6");
        due("abilities 0", part(STRUCTURES, many(1, 0, 1, 3)), "DONE");
        due("abilities 15", part(STRUCTURES, many(1, 15, 1, 3)), "DONE");
        due("abilities 16", part(STRUCTURES, many(1, 16, 1, 3)), "FAULTY 3 7");
        due("abilities 255", part(STRUCTURES, many(1, 255, 1, 3)), "FAULTY 3 7");
        due("0 fields", part(STRUCTURES, Assembly.bytes(1, 0, 0)), "FAULTY 3 8");
        due("1 field", part(STRUCTURES, Assembly.join(Assembly.bytes(1, 0), many(1, 3))), "DONE");
        due("16 fields", part(STRUCTURES, Assembly.join(Assembly.bytes(1, 0), many(16, 3))), "DONE");
        due("17 fields", part(STRUCTURES, Assembly.join(Assembly.bytes(1, 0), many(17, 3))), "FAULTY 3 8");
    }

    /** "how many FOREIGN STRUCTURES (0 .. 32), each .. a byte (abilities, 0 .. 15)" */
    private static void foreignStructures() {
        due("32 foreign structures", part(FOREIGN_STRUCTURES, many(32, 0, 0, 0, 4)), "DONE");
        due("33 foreign structures", part(FOREIGN_STRUCTURES, many(33, 0, 0, 0, 4)), "FAULTY 3 7");
        due("abilities 15", part(FOREIGN_STRUCTURES, many(1, 0, 0, 0, 15)), "FAULTY 22 0");
        due("abilities 16", part(FOREIGN_STRUCTURES, many(1, 0, 0, 0, 16)), "FAULTY 3 11");
        // A SHORT and a number may be anything here.
        due("any module and structure", part(FOREIGN_STRUCTURES, many(1, 255, 255, 255, 4)), "FAULTY 22 0");
        due("32 of each", parts(STRUCTURES, many(32, 0, 1, 3), FOREIGN_STRUCTURES, many(32, 0, 0, 0, 4)), "DONE");
    }

    /** "how many FOREIGN FUNCTIONS (0 .. 32), each .. a byte, its FLAGS (0 .. 7), a LIST .., a LIST" */
    private static void foreignFunctions() {
        due("32 foreign functions", part(FOREIGN_FUNCTIONS, many(32, 0, 0, 5, 1, 1, 5, 1, 3)), "DONE");
        due("33 foreign functions", part(FOREIGN_FUNCTIONS, many(33, 0, 0, 5, 1, 1, 5, 1, 3)), "FAULTY 3 8");
        due("flags 7", part(FOREIGN_FUNCTIONS, many(1, 0, 0, 5, 7, 1, 5, 1, 3)), "FAULTY 23 0");
        due("flags 8", part(FOREIGN_FUNCTIONS, many(1, 0, 0, 5, 8, 1, 5, 1, 3)), "FAULTY 3 12");
        due("any module and function", part(FOREIGN_FUNCTIONS, many(1, 255, 255, 255, 3, 0, 0)), "FAULTY 23 0");
        byte[] eight = Assembly.join(Assembly.bytes(1, 0, 0, 5, 1), many(8, 5), many(8, 3));
        due("8 taken and given", part(FOREIGN_FUNCTIONS, eight), "FAULTY 23 0");
        byte[] nine = Assembly.join(Assembly.bytes(1, 0, 0, 5, 1), many(9, 5), many(8, 3));
        due("9 taken", part(FOREIGN_FUNCTIONS, nine), "FAULTY 3 13");
        nine = Assembly.join(Assembly.bytes(1, 0, 0, 5, 1), many(8, 5), many(9, 3));
        due("9 given", part(FOREIGN_FUNCTIONS, nine), "FAULTY 3 22");
        // With 64 functions of its own, the foreign ones have the numbers 64 to 95.
        Assembly all = new Assembly(7);
        for (int f = 0; f < 32; f++) {
            all.foreignFunction(0, 5, 1, "addr", "long");
        }
        for (int f = 0; f < 63; f++) {
            all.function(0, "", "", "", "ret");
        }
        Bench bench = new Bench();
        Check.due("64 and 32", bench.publish(all.function(2, "", "long", "", "addr 2; call 95; ret")), "DONE");
        Check.due("the last one is called", bench.run(7, 63), "DONE gas 8 100000000");
    }

    /** "how many ELEMENT TYPES (0 .. 32)" */
    private static void elements() {
        due("32 element types", part(ELEMENTS, many(32, 3)), "DONE");
        due("33 element types", part(ELEMENTS, many(33, 3)), "FAULTY 3 9");
        // "TYPES, which may be references" are in LISTS alone.
        due("a reference", part(ELEMENTS, many(1, 8, 3)), "FAULTY 4 10");
        due("one that may write", part(ELEMENTS, many(1, 9, 3)), "FAULTY 4 10");
    }

    /** "how many FUNCTIONS (0 .. 64), each a byte, its FLAGS (.. 0 .. 7)" */
    private static void functions() {
        due("64 functions", part(FUNCTIONS, many(64, 0, 0, 0, 0, 0, 1, 1)), "DONE");
        due("65 functions", part(FUNCTIONS, many(65, 0, 0, 0, 0, 0, 1, 1)), "FAULTY 3 10");
        due("flags 0", part(FUNCTIONS, many(1, 0, 0, 0, 0, 0, 1, 1)), "DONE");
        due("flags 7", part(FUNCTIONS, many(1, 7, 0, 0, 0, 0, 1, 1)), "DONE");
        due("flags 8", part(FUNCTIONS, many(1, 8, 0, 0, 0, 0, 1, 1)), "FAULTY 3 11");
    }

    private static byte[] withLists(int takes, int gives, int locals) {
        return part(FUNCTIONS, Assembly.join(Assembly.bytes(1, 0), many(takes, 2), many(gives, 2), many(locals, 2),
            Assembly.bytes(0, 3, 6, 0, 0, 0, 0, 0, 0, 0, 1, 45, 35)));
    }

    /** "A LIST is a byte, how many (0 .. 8, if nothing else is said)", "further LOCALS (at most 32)" */
    private static void lists() {
        // The last instruction is never come to, which is told only when all lists were read.
        due("8, 8 and 32", withLists(8, 8, 32), "FAULTY 40 2");
        due("none", withLists(0, 0, 0), "FAULTY 40 2");
        due("9 taken", withLists(9, 8, 32), "FAULTY 3 12");
        due("9 given", withLists(8, 9, 32), "FAULTY 3 21");
        due("33 further locals", withLists(8, 8, 33), "FAULTY 3 30");
        due("33 further locals and none taken", withLists(0, 0, 33), "FAULTY 3 14");
    }

    private static byte[] withNothings(int told, int there) {
        int[] bytes = new int[there];
        Arrays.fill(bytes, 35);
        bytes[there - 1] = 1;
        return part(FUNCTIONS, code(told, bytes));
    }

    /** "a SHORT, how many INSTRUCTIONS (1 .. 1024)"; "before they are read", "at its first byte" */
    private static void instructions() {
        due("1 instruction", withNothings(1, 1), "DONE");
        due("1024 instructions", withNothings(1024, 1024), "DONE");
        due("1025 instructions", withNothings(1025, 1025), "FAULTY 3 15");
        due("0 instructions", part(FUNCTIONS, code(0)), "FAULTY 3 15");
        due("1025 told, none there", part(FUNCTIONS, code(1025)), "FAULTY 3 15");
        due("65535 told, none there", part(FUNCTIONS, code(65535)), "FAULTY 3 15");
        due("1024 told, none there", part(FUNCTIONS, code(1024)), "FAULTY 2 17");
        due("1025 told, no operation there", part(FUNCTIONS, code(1025, 60)), "FAULTY 3 15");
        due("256 told, 255 there", withNothings(256, 255), "FAULTY 2 272");
        due("255 told, 256 there", withNothings(255, 256), "FAULTY 6 272");
    }

    /** A module as long as the tape: 2048 bytes in two functions. */
    private static void wholeTape() {
        Assembly module = new Assembly(7).function(2, "", "", "", "nothing; ".repeat(1023) + "ret")
            .function(2, "", "long", "", "nothing; ".repeat(990) + "long 5; ret");
        byte[] bytes = module.toBytes();
        Check.due("its length", bytes.length, 2048);
        Bench bench = new Bench();
        Check.due("2048 bytes", bench.publish(bytes), "DONE");
        Check.due("its gas", bench.ledger.told(0, 1), 138);
        Check.due("1024 instructions are done", bench.run(7, 0), "DONE gas 1024");
        Check.due("and those behind them", bench.run(7, 1), "DONE gas 992 5");
        due("2047 of them", Arrays.copyOf(bytes, 2047), "FAULTY 2 2047");
    }

    /** "A TYPE is bytes: 1 .. 5; 6 and a byte; 7 and a TYPE (.. at most four 7s); 8 or 9 and a TYPE without such" */
    private static void types() {
        for (int t = 1; t <= 5; t++) {
            due("a field " + t, part(STRUCTURES, Assembly.join(Assembly.bytes(1, 0), many(1, t))), "DONE");
        }
        for (int t : new int[] {0, 8, 9, 10, 255}) {
            due("no field " + t, part(STRUCTURES, Assembly.join(Assembly.bytes(1, 0), many(1, t))), "FAULTY 4 9");
            due("no element " + t, part(ELEMENTS, many(1, t)), "FAULTY 4 10");
            due("no vector of " + t, part(ELEMENTS, many(1, 7, t)), "FAULTY 4 11");
        }
        due("four 7s", part(ELEMENTS, many(1, 7, 7, 7, 7, 1)), "DONE");
        due("a fifth 7", part(ELEMENTS, many(1, 7, 7, 7, 7, 7, 1)), "FAULTY 4 14");
        due("four 7s and a structure", parts(STRUCTURES, many(1, 0, 1, 3), ELEMENTS, many(1, 7, 7, 7, 7, 6, 0)), "DONE");
        due("four 7s and no TYPE", part(ELEMENTS, many(1, 7, 7, 7, 7, 10)), "FAULTY 4 14");
        for (int reference : new int[] {8, 9}) {
            listed("a reference", "DONE", reference, 3);
            listed("with four 7s", "DONE", reference, 7, 7, 7, 7, 5);
            listed("with a fifth 7", "FAULTY 4 17", reference, 7, 7, 7, 7, 7, 5);
            listed("to a reference", "FAULTY 4 13", reference, 8, 3);
            listed("to one that may write", "FAULTY 4 13", reference, 9, 3);
            listed("to no TYPE", "FAULTY 4 13", reference, 0);
            listed("to a vector of references", "FAULTY 4 14", reference, 7, 8, 3);
        }
        listed("no TYPE", "FAULTY 4 12", 0);
        listed("no TYPE", "FAULTY 4 12", 10);
        listed("a vector of references", "FAULTY 4 13", 7, 8, 3);
    }

    /** A function whose further locals are of one type: the type begins at 12 as the first LIST would. */
    private static void listed(String what, String want, int... type) {
        byte[] list = Assembly.join(Assembly.bytes(1), Assembly.bytes(type));
        byte[] none = Assembly.bytes(0);
        byte[] end = Assembly.bytes(0, 1, 1);
        String due = want;
        for (int place = 0; place < 3; place++) {
            byte[] lists = Assembly.join(place == 0 ? list : none, place == 1 ? list : none, place == 2 ? list : none);
            byte[] module = part(FUNCTIONS, Assembly.join(Assembly.bytes(1, 0), lists, end));
            if (!want.equals("DONE")) {
                String[] words = want.split(" ");
                due = "FAULTY 4 " + (Integer.parseInt(words[2]) + place + 1);
            } else if (place == 1) {
                // It gives nothing, though it should: that is told when all was read.
                due = "FAULTY 42 0";
            }
            due(what + " in list " + place, module, due);
            due = want;
        }
    }

    /** "AN INSTRUCTION is a byte, its OPERATION, 0 .. 59"; "5 a byte that is no operation, at it" */
    private static void operations() {
        due("operation 59", part(FUNCTIONS, code(1, 59)), "FAULTY 31 0");
        due("operation 0", part(FUNCTIONS, code(1, 0)), "FAULTY 31 0");
        for (int op : new int[] {60, 61, 127, 128, 255}) {
            due("operation " + op, part(FUNCTIONS, code(1, op)), "FAULTY 5 " + CODE);
            due("operation " + op + " behind another", part(FUNCTIONS, code(2, 5, 60, op)), "FAULTY 5 " + (CODE + 2));
        }
    }

    /** "OPERANDS: a byte for .., two bytes for .., a SHORT for .., a LONG for .., two LONGS for 7 ..; none for all others" */
    private static void operands() {
        int[] widths = new int[60];
        for (int op : new int[] {5, 11, 12, 13, 14, 15, 21, 22, 23, 47, 48, 49, 50, 51, 53, 54, 55, 56, 57, 58}) {
            widths[op] = 1;
        }
        for (int op : new int[] {2, 3, 4, 16, 17, 52}) {
            widths[op] = 2;
        }
        widths[6] = 8;
        widths[10] = 8;
        widths[7] = 16;
        for (int op = 0; op < 60; op++) {
            int[] bytes = new int[widths[op] + 2];
            bytes[0] = op;
            bytes[widths[op] + 1] = 60;
            // The byte behind the operands is the next operation, and is none.
            due("operands of " + op, part(FUNCTIONS, code(2, bytes)), "FAULTY 5 " + (CODE + widths[op] + 1));
            byte[] module = part(FUNCTIONS, code(1, Arrays.copyOf(bytes, widths[op] + 1)));
            due("one byte less of " + op, Arrays.copyOf(module, module.length - 1), "FAULTY 2 " + (module.length - 1));
        }
        // "52 (make a vector: an element type, how many: 0 .. 64)"
        byte[] element = many(1, 3);
        due("a vector of 64", parts(ELEMENTS, element, FUNCTIONS, code(1, 52, 0, 64)), "FAULTY 31 0");
        due("a vector of 65", parts(ELEMENTS, element, FUNCTIONS, code(1, 52, 0, 65)), "FAULTY 3 " + (CODE + 3));
        due("a vector of 255", parts(ELEMENTS, element, FUNCTIONS, code(1, 52, 0, 255)), "FAULTY 3 " + (CODE + 3));
        due("65 of no element type", part(FUNCTIONS, code(1, 52, 9, 65)), "FAULTY 3 " + (CODE + 2));
    }

    /** "First, from the beginning on": what stands first in the tape is told, whichever fault it is. */
    private static void firstFaultsInOrder() {
        due("1 before 3", Assembly.bytes(82, 76, 77, 48, 0, 7, 33), "FAULTY 1 3");
        due("3 before 4", part(STRUCTURES, Assembly.bytes(1, 16, 1, 0)), "FAULTY 3 7");
        due("4 before 3", part(STRUCTURES, Assembly.bytes(2, 0, 1, 0, 16)), "FAULTY 4 9");
        due("4 before 2", Assembly.bytes(82, 76, 77, 49, 0, 7, 1, 0, 2, 0), "FAULTY 4 9");
        due("3 before 2", Assembly.bytes(82, 76, 77, 49, 0, 7, 33), "FAULTY 3 6");
        due("5 before 3", part(FUNCTIONS, code(2, 60, 52, 0, 65)), "FAULTY 5 " + CODE);
        due("3 before 5", part(FUNCTIONS, code(2, 52, 0, 65, 60)), "FAULTY 3 " + (CODE + 2));
        due("5 before 6", Assembly.join(part(FUNCTIONS, code(1, 60)), Assembly.bytes(1)), "FAULTY 5 " + CODE);
        due("5 before 2", part(FUNCTIONS, code(9, 60)), "FAULTY 5 " + CODE);
        // All of these come before 7 to 13, wherever those are.
        due("3 before 7", part(STRUCTURES, Assembly.bytes(2, 0, 1, 6, 9, 16)), "FAULTY 3 11");
        due("2 before 7", Assembly.bytes(82, 76, 77, 49, 0, 7, 1, 0, 1, 6, 9), "FAULTY 2 11");
        due("6 before 7", Assembly.join(part(STRUCTURES, Assembly.bytes(1, 0, 1, 6, 9)), Assembly.bytes(0)), "FAULTY 6 15");
        due("5 before 10", part(FUNCTIONS, code(2, 11, 0, 60)), "FAULTY 5 " + (CODE + 2));
        due("3 before 12", part(FUNCTIONS, code(2, 53, 0, 52, 0, 65)), "FAULTY 3 " + (CODE + 4));
        due("2 before 13", part(FUNCTIONS, code(2, 2, 0, 9)), "FAULTY 2 " + (CODE + 3));
    }

    /** "7 a structure's number that is none, at it": own ones and the foreign ones behind them are. */
    private static void structureNumbers() {
        // Two structures of its own and a foreign one: 0, 1, 2.
        for (int s = 0; s < 5; s++) {
            boolean is = s < 3;
            Assembly field = new Assembly(7).structure(0, "long").structure(0, "long S" + (s == 1 ? 0 : s)).foreignStructure(0, 0, 4);
            Check.due("field S" + s, new Bench().publish(field), is ? "DONE" : "FAULTY 7 14");
            Check.due("element S" + s, new Bench().publish(three().element("**S" + s)), is ? "DONE" : "FAULTY 7 23");
            Check.due("a local S" + s, new Bench().publish(three().function(0, "", "", "&S" + s, "ret")),
                is ? "DONE" : "FAULTY 7 27");
            Check.due("taken S" + s, new Bench().publish(three().function(0, "&!*S" + s, "", "", "ret")),
                is ? "DONE" : "FAULTY 7 26");
            Check.due("given S" + s, new Bench().publish(three().function(0, "S" + s, "S" + s, "", "move 0; ret")),
                is ? "DONE" : "FAULTY 7 24");
        }
        due("no structures at all", part(ELEMENTS, many(1, 6, 0)), "FAULTY 7 11");
        due("a foreign function's", part(FOREIGN_FUNCTIONS, many(1, 0, 0, 2, 1, 1, 8, 6, 0, 0)), "FAULTY 7 16");
        due("255", part(ELEMENTS, many(1, 6, 255)), "FAULTY 7 11");
        // A field may name a foreign structure, though those come later in the tape.
        due("the last foreign one", parts(STRUCTURES, many(1, 4, 1, 6, 32), FOREIGN_STRUCTURES, many(32, 0, 0, 0, 4)), "DONE");
        due("none behind it", parts(STRUCTURES, many(1, 4, 1, 6, 33), FOREIGN_STRUCTURES, many(32, 0, 0, 0, 4)), "FAULTY 7 10");
    }

    private static Assembly three() {
        return new Assembly(7).structure(0, "long").structure(0, "long").foreignStructure(0, 0, 4);
    }

    private static final int SUBJECT_CODE = 30;

    /** The code of a function with one local of each kind behind three(): where its bytes begin. */
    private static void coded(String want, String code) {
        Assembly module = three().element("long").function(4, "long", "", "truth", code);
        String due = want;
        if (want.contains("+")) {
            String[] words = want.split("\\+");
            due = "FAULTY " + words[0] + " " + (SUBJECT_CODE + Integer.parseInt(words[1]));
        }
        Check.due(code, new Bench().publish(module), due);
    }

    /** "8 a structure that has to be the module's own (16, 17, 21, 22, 47 .. 51), and is a foreign one" */
    private static void ownStructures() {
        for (String op : new String[] {"pack", "unpack", "put", "take", "has", "borrow", "borrow!", "field", "field!"}) {
            String field = op.startsWith("field") ? " 0" : "";
            // The last one of its own goes through reading; there is nothing on the stack for it.
            coded("FAULTY 31 0", op + " 1" + field);
            coded("8+1", op + " 2" + field);
            coded("7+1", op + " 3" + field);
            coded("7+1", op + " 255" + field);
        }
        coded("8+1", "field 2 9");
        coded("7+1", "field 3 9");
    }

    /** "9 a field's number that is none" */
    private static void fieldNumbers() {
        for (String op : new String[] {"field", "field!"}) {
            coded("FAULTY 31 0", op + " 0 0");
            coded("9+2", op + " 0 1");
            coded("9+2", op + " 1 255");
        }
        Assembly wide = new Assembly(7).structure(0, "long ".repeat(16)).structure(0, "long");
        Check.due("the 16th", new Bench().publish(wide.function(0, "", "", "", "field 0 15")), "FAULTY 31 0");
        wide = new Assembly(7).structure(0, "long ".repeat(16)).structure(0, "long");
        Check.due("no 17th", new Bench().publish(wide.function(0, "", "", "", "field 0 16")), "FAULTY 9 40");
    }

    /** "10 a local's number that is none"; "LOCALS are what a function takes and its further locals" */
    private static void localNumbers() {
        for (String op : new String[] {"copy", "move", "store", "lend", "lend!"}) {
            coded(op.equals("store") ? "FAULTY 31 0" : "FAULTY 35 0", op + " 1");
            coded("10+1", op + " 2");
            coded("10+1", op + " 255");
            Check.due("none at all", new Bench().publish(new Assembly(7).function(0, "", "", "", op + " 0")),
                "FAULTY 10 18");
        }
        // 8 and 32 are 40 in all.
        String eight = "long ".repeat(8);
        String further = "truth ".repeat(32);
        Check.due("the 40th", new Bench().publish(new Assembly(7).function(0, eight, "", further, "yes; store 39; ret")), "DONE");
        Check.due("no 41st", new Bench().publish(new Assembly(7).function(0, eight, "", further, "yes; store 40; ret")),
            "FAULTY 10 59");
    }

    /** "11 a function's number that is none": own ones and the foreign ones behind them are. */
    private static void functionNumbers() {
        for (int f = 0; f < 5; f++) {
            Assembly module = new Assembly(7).foreignFunction(0, 5, 1, "addr", "long")
                .function(1, "", "", "", "ret").function(0, "", "", "", "sender; call " + f);
            // 0 and 1 take nothing, and leave an address; 2 is the foreign one, and leaves a long.
            Check.due("call " + f, new Bench().publish(module), f < 3 ? "FAULTY 41 1025" : "FAULTY 11 34");
        }
        due("itself", part(FUNCTIONS, code(2, 23, 0, 1)), "DONE");
        due("none behind it", part(FUNCTIONS, code(2, 23, 1, 1)), "FAULTY 11 " + (CODE + 1));
        due("255", part(FUNCTIONS, code(2, 23, 255, 1)), "FAULTY 11 " + (CODE + 1));
    }

    /** "12 an element type's number that is none" */
    private static void elementNumbers() {
        for (String op : new String[] {"length", "element", "element!", "push", "last", "swap", "vector"}) {
            String count = op.equals("vector") ? " 1" : "";
            coded("FAULTY 31 0", op + " 0" + count);
            coded("12+1", op + " 1" + count);
            coded("12+1", op + " 255" + count);
        }
        due("the 32nd", parts(ELEMENTS, many(32, 3), FUNCTIONS, code(1, 53, 31)), "FAULTY 31 0");
        due("no 33rd", parts(ELEMENTS, many(32, 3), FUNCTIONS, code(1, 53, 32)), "FAULTY 12 " + (CODE + 33));
        due("none at all", part(FUNCTIONS, code(1, 53, 0)), "FAULTY 12 " + (CODE + 1));
    }

    /** "13 a branch to where no instruction is, at the SHORT" */
    private static void branches() {
        for (int op = 2; op <= 4; op++) {
            due("to the last one", part(FUNCTIONS, code(3, 8, op, 0, 2, 1)), op == 2 ? "FAULTY 38 1" : "DONE");
            due("behind the last one", part(FUNCTIONS, code(3, 8, op, 0, 3, 1)), "FAULTY 13 " + (CODE + 2));
            due("far behind it", part(FUNCTIONS, code(3, 8, op, 255, 255, 1)), "FAULTY 13 " + (CODE + 2));
            due("256 behind the first", part(FUNCTIONS, code(3, 8, op, 1, 0, 1)), "FAULTY 13 " + (CODE + 2));
        }
        int[] long1024 = new int[1026];
        Arrays.fill(long1024, 35);
        long1024[0] = 2;
        long1024[1] = 3;
        long1024[2] = 255;
        long1024[1025] = 1;
        due("to the 1024th, over the others", part(FUNCTIONS, code(1024, long1024)), "FAULTY 40 1");
        long1024[1] = 4;
        long1024[2] = 0;
        due("to no 1025th", part(FUNCTIONS, code(1024, long1024)), "FAULTY 13 " + (CODE + 1));
        // It counts instructions of its function, not those behind it, nor bytes.
        byte[] two = Assembly.join(Assembly.bytes(2, 0, 0, 0, 0, 0, 1, 2, 0, 1), Assembly.bytes(0, 0, 0, 0, 0, 1, 1));
        due("into the next function", part(FUNCTIONS, two), "FAULTY 13 18");
    }

    /** "Then, from the beginning on": what stands first in the tape is told; then 14; then 21. */
    private static void laterFaultsInOrder() {
        coded("10+1", "copy 2; call 9; vector 1 0; go 9");
        coded("11+1", "call 9; copy 2; vector 1 0; go 9");
        coded("12+1", "vector 1 0; call 9; copy 2; go 9");
        coded("13+1", "go 9; vector 1 0; call 9; copy 2");
        coded("8+1", "pack 2; field 0 1");
        coded("9+2", "field 0 1; pack 2");
        coded("7+1", "pack 3; pack 2");
        // In types before code, in the order of the tape.
        due("a field's before an element's", parts(STRUCTURES, many(1, 0, 1, 6, 9), ELEMENTS, many(1, 6, 9)), "FAULTY 7 10");
        due("an element's before code", parts(ELEMENTS, many(1, 6, 9), FUNCTIONS, code(1, 11, 0)), "FAULTY 7 11");
        // A structure that contains itself comes behind all of these, and before the module's number.
        due("13 before 14", parts(STRUCTURES, many(1, 0, 1, 6, 0), FUNCTIONS, code(1, 2, 0, 1)), "FAULTY 13 22");
        byte[] zero = part(STRUCTURES, many(1, 0, 1, 6, 0));
        zero[5] = 0;
        due("14 before 21", zero, "FAULTY 14 7");
        due("14 before 24", part(STRUCTURES, Assembly.bytes(2, 0, 1, 3, 1, 2, 6, 0, 6, 1)), "FAULTY 14 10");
        due("14 before looking", parts(STRUCTURES, many(1, 0, 1, 6, 0), FUNCTIONS, code(1, 0)), "FAULTY 14 7");
    }

    /** "14 a structure that contains itself, by its fields' types, and theirs, .. (also in vectors)" */
    private static void rounds() {
        due("itself", part(STRUCTURES, many(1, 0, 1, 6, 0)), "FAULTY 14 7");
        due("itself in a vector", part(STRUCTURES, many(1, 0, 1, 7, 7, 7, 7, 6, 0)), "FAULTY 14 7");
        due("by its last field", part(STRUCTURES, Assembly.bytes(1, 0, 3, 1, 2, 6, 0)), "FAULTY 14 7");
        // Each one holds the next, and the last one an earlier: that is the first that contains itself.
        for (int first = 0; first < 32; first++) {
            byte[] row = Assembly.bytes(32);
            for (int s = 0; s < 32; s++) {
                row = Assembly.join(row, Assembly.bytes(0, 1, 6, s < 31 ? s + 1 : first));
            }
            due("a round of " + (32 - first), part(STRUCTURES, row), "FAULTY 14 " + (7 + 4 * first));
        }
        byte[] chain = Assembly.bytes(23);
        for (int s = 0; s < 23; s++) {
            chain = Assembly.join(chain, s < 22 ? Assembly.bytes(0, 1, 6, s + 1) : Assembly.bytes(0, 1, 3));
        }
        due("a row without a round", part(STRUCTURES, chain), "DONE");
        // A foreign one of the same number is another one.
        due("a foreign one", parts(STRUCTURES, many(1, 4, 1, 6, 1), FOREIGN_STRUCTURES, many(1, 0, 0, 0, 4)), "DONE");
    }
}
