import java.io.ByteArrayOutputStream;
import java.util.ArrayList;
import java.util.Arrays;
import java.util.List;

/**
 * Writes modules as bytes. Types are words: truth byte long wide addr S3 (a structure), with a
 * star for each vector and & (or &! to write) for a reference before them. Code is operations
 * with their operands, with semicolons between them.
 */
final class Assembly {
    private static final List<String> OPERATIONS = Arrays.asList(
        "pop", "ret", "go", "goif", "goifnot", "byte", "long", "wide", "yes", "no", "addr",
        "copy", "move", "store", "lend", "lend!", "field", "field!", "read", "write", "freeze",
        "pack", "unpack", "call", "add", "sub", "mul", "div", "rem", "and", "or", "xor", "up",
        "down", "not", "nothing", "same", "differ", "below", "notabove", "above", "notbelow",
        "tobyte", "tolong", "towide", "abort", "sender", "put", "take", "has", "borrow", "borrow!",
        "vector", "length", "element", "element!", "push", "last", "swap", "digest");
    private static final List<String> TYPES = Arrays.asList("", "truth", "byte", "long", "wide", "addr");

    private final int number;
    private final List<byte[]> structures = new ArrayList<>();
    private final List<byte[]> foreignStructures = new ArrayList<>();
    private final List<byte[]> foreignFunctions = new ArrayList<>();
    private final List<byte[]> elements = new ArrayList<>();
    private final List<byte[]> functions = new ArrayList<>();

    Assembly(int number) {
        this.number = number;
    }

    static byte[] bytes(int... numbers) {
        byte[] row = new byte[numbers.length];
        for (int i = 0; i < row.length; i++) {
            row[i] = (byte) numbers[i];
        }
        return row;
    }

    static byte[] type(String word) {
        ByteArrayOutputStream out = new ByteArrayOutputStream();
        String rest = word;
        if (rest.startsWith("&!")) {
            out.write(9);
            rest = rest.substring(2);
        } else if (rest.startsWith("&")) {
            out.write(8);
            rest = rest.substring(1);
        }
        while (rest.startsWith("*")) {
            out.write(7);
            rest = rest.substring(1);
        }
        if (rest.startsWith("S")) {
            out.write(6);
            out.write(Integer.parseInt(rest.substring(1)));
        } else {
            int t = TYPES.indexOf(rest);
            if (t < 1) {
                throw new IllegalArgumentException(word);
            }
            out.write(t);
        }
        return out.toByteArray();
    }

    static byte[] list(String words) {
        ByteArrayOutputStream out = new ByteArrayOutputStream();
        String[] all = words.trim().isEmpty() ? new String[0] : words.trim().split(" +");
        out.write(all.length);
        for (String word : all) {
            out.writeBytes(type(word));
        }
        return out.toByteArray();
    }

    Assembly structure(int abilities, String fields) {
        structures.add(join(bytes(abilities), list(fields)));
        return this;
    }

    Assembly foreignStructure(int module, int structure, int abilities) {
        foreignStructures.add(bytes(module >> 8, module, structure, abilities));
        return this;
    }

    Assembly foreignFunction(int module, int function, int flags, String takes, String gives) {
        foreignFunctions.add(join(bytes(module >> 8, module, function, flags), list(takes), list(gives)));
        return this;
    }

    Assembly element(String word) {
        elements.add(type(word));
        return this;
    }

    /** The coin's structure, which is number coin here, and its functions 0 to 5. */
    Assembly coin(int coin) {
        String c = "S" + coin;
        foreignStructure(0, 0, 4);
        foreignFunction(0, 0, 1, "long", c);
        foreignFunction(0, 1, 1, "addr " + c, "");
        foreignFunction(0, 2, 1, "&" + c, "long");
        foreignFunction(0, 3, 1, c + " " + c, c);
        foreignFunction(0, 4, 1, c + " long", c + " " + c);
        return foreignFunction(0, 5, 1, "addr", "long");
    }

    Assembly function(int flags, String takes, String gives, String locals, String code) {
        String[] rows = code.trim().split(" *; *");
        ByteArrayOutputStream out = new ByteArrayOutputStream();
        for (String row : rows) {
            out.writeBytes(instruction(row));
        }
        functions.add(join(bytes(flags), list(takes), list(gives), list(locals),
            bytes(rows.length >> 8, rows.length), out.toByteArray()));
        return this;
    }

    private static byte[] instruction(String row) {
        String[] words = row.trim().split(" +");
        int op = OPERATIONS.indexOf(words[0]);
        if (op < 0) {
            throw new IllegalArgumentException(row);
        }
        ByteArrayOutputStream out = new ByteArrayOutputStream();
        out.write(op);
        int width = op >= 2 && op <= 4 ? 2 : op == 6 || op == 7 || op == 10 ? 8 : 1;
        for (int i = 1; i < words.length; i++) {
            long n = words[i].startsWith("-") ? Long.parseLong(words[i]) : Long.parseUnsignedLong(words[i]);
            for (int b = width - 1; b >= 0; b--) {
                out.write((int) (n >>> (8 * b)));
            }
        }
        return out.toByteArray();
    }

    byte[] toBytes() {
        ByteArrayOutputStream out = new ByteArrayOutputStream();
        out.writeBytes(bytes(82, 76, 77, 49, number >> 8, number));
        for (List<byte[]> part : Arrays.asList(structures, foreignStructures, foreignFunctions, elements, functions)) {
            out.write(part.size());
            for (byte[] row : part) {
                out.writeBytes(row);
            }
        }
        return out.toByteArray();
    }

    static byte[] join(byte[]... rows) {
        ByteArrayOutputStream out = new ByteArrayOutputStream();
        for (byte[] row : rows) {
            out.writeBytes(row);
        }
        return out.toByteArray();
    }
}
