import java.util.ArrayList;
import java.util.Arrays;
import java.util.List;

/**
 * Part 3: what each operation takes from the stack and puts on it, by a table. "1 when nothing is
 * left, 3 when it is of another type (7, by 17, 19, 20, 55 .. 58 alone ..)", "the topmost first",
 * and "2 above 64 values".
 */
final class TakingEdgesTest {
    /** Types that are tried where another one is due. */
    private static final List<String> WORDS = Arrays.asList("truth", "byte", "long", "wide", "addr", "S0", "S1", "*long", "*byte",
        "**long", "&long", "&!long", "&S0", "&!S0", "&S1", "&!S1", "&*long", "&!*long", "&*byte", "&!*byte");
    private static final List<String> NUMBERS = Arrays.asList("byte", "long", "wide");
    private static final int EXACTLY = 0;
    /** A reference that reads may be given as one that writes. */
    private static final int ALSO_WRITING = 1;
    /** A reference that does not write, though it should, is fault 7. */
    private static final int SEVEN = 2;

    private TakingEdgesTest() {
    }

    public static void main(String[] args) {
        setting();
        steering();
        locals();
        references();
        writing();
        packing();
        calling();
        reckoning();
        shifting();
        comparing();
        casting();
        resources();
        vectors();
        topmostFirst();
        mostValues();
        mostValuesOfCalls();
        Check.end();
    }

    /** The subject is function 0; 1 takes all plain types and gives them turned, 2 gives eight, 3 takes references. */
    private static String publish(String takes, String locals, String code) {
        return new Bench().publish(new Assembly(7).structure(15, "long truth").structure(12, "byte")
            .element("long").element("byte").element("*long")
            .function(4, takes, "", locals, code)
            .function(0, "truth byte long wide addr", "addr wide long byte truth", "", "move 4; move 3; move 2; move 1; move 0; ret")
            .function(0, "", "truth truth truth truth truth truth truth truth", "", "long 0; abort")
            .function(0, "&S0 &!S1", "&!S1 &S0", "", "long 0; abort"));
    }

    private static String moves(int count) {
        StringBuilder text = new StringBuilder();
        for (int k = 0; k < count; k++) {
            text.append("move ").append(k).append("; ");
        }
        return text.toString();
    }

    private static String[] split(String words) {
        return words.isEmpty() ? new String[0] : words.split(" ");
    }

    /** All of one operation: what it takes (the last one topmost), and what it gives then. */
    private static void signature(String op, String takes, String gives, int how) {
        String[] taken = split(takes);
        given(op, taken, gives);
        for (int m = 0; m < taken.length; m++) {
            String few = String.join(" ", Arrays.copyOfRange(taken, taken.length - m, taken.length));
            Check.due(op + " of " + few, publish(few, "", moves(m) + op), "FAULTY 31 " + m);
        }
        for (int p = 0; p < taken.length; p++) {
            for (String word : WORDS) {
                String right = taken[p];
                if (!word.equals(right) && !(how == ALSO_WRITING && word.equals(right.replace("&", "&!")))) {
                    boolean reads = how == SEVEN && word.equals(right.replace("&!", "&"));
                    wrong(op, taken, p, word, reads ? 37 : 33);
                }
            }
        }
    }

    private static void given(String op, String[] taken, String gives) {
        StringBuilder code = new StringBuilder(moves(taken.length)).append(op).append("; ");
        String[] locals = split(gives);
        for (int k = locals.length - 1; k >= 0; k--) {
            code.append("store ").append(taken.length + k).append("; ");
        }
        String all = String.join(" ", taken);
        int end = taken.length + 1 + locals.length;
        Check.due(op + " of " + all, publish(all, gives, code + "long 0; abort"), "DONE");
        Check.due(op + " of " + all + " gives no more", publish(all, gives, code + "pop"), "FAULTY 31 " + end);
    }

    /** One is of another type, and there is nothing below it: the topmost ones were looked at first. */
    private static void wrong(String op, String[] taken, int p, String word, int fault) {
        String[] given = Arrays.copyOfRange(taken, p, taken.length);
        given[0] = word;
        Check.due(op + " of " + String.join(" ", given), publish(String.join(" ", given), "", moves(given.length) + op),
            "FAULTY " + fault + " " + given.length);
    }

    /** "5 6 7 8 9 10 46 35: put a byte, a long, a wide, a truth, a truth, an address, an address, nothing." */
    private static void setting() {
        signature("byte 1", "", "byte", EXACTLY);
        signature("long 1", "", "long", EXACTLY);
        signature("wide 1 1", "", "wide", EXACTLY);
        signature("yes", "", "truth", EXACTLY);
        signature("no", "", "truth", EXACTLY);
        signature("addr 1", "", "addr", EXACTLY);
        signature("sender", "", "addr", EXACTLY);
        signature("nothing", "", "", EXACTLY);
    }

    /** "3 when a truth (taken) is so, 4 when not"; "45 ABORT: takes a long"; "0 takes any" */
    private static void steering() {
        for (String word : WORDS) {
            for (String op : new String[] {"goif 0", "goifnot 0"}) {
                // Behind it there is no next instruction.
                Check.due(op + " of " + word, publish(word, "", "move 0; " + op), word.equals("truth") ? "FAULTY 39 1" : "FAULTY 33 1");
            }
            Check.due("abort of " + word, publish(word, "", "move 0; abort"), word.equals("long") ? "DONE" : "FAULTY 33 1");
            boolean drops = !word.equals("S1");
            Check.due("pop of " + word, publish(word, "", "move 0; pop; ret"), drops ? "DONE" : "FAULTY 34 1");
        }
        for (String op : new String[] {"goif 0", "goifnot 0", "abort", "pop"}) {
            Check.due(op + " of nothing", publish("", "", op), "FAULTY 31 0");
        }
    }

    /** "13 takes its type for it" */
    private static void locals() {
        for (String local : WORDS) {
            for (String word : WORDS) {
                Check.due("store " + word + " in " + local, publish(word, local, "move 0; store 1; long 0; abort"),
                    word.equals(local) ? "DONE" : "FAULTY 33 1");
            }
            Check.due("store nothing in " + local, publish("", local, "store 0"), "FAULTY 31 0");
        }
    }

    /** "16, 17 take a reference (17 a writing one) to structure a: one (17 writing) to its field b" */
    private static void references() {
        signature("field 0 0", "&S0", "&long", ALSO_WRITING);
        signature("field 0 1", "&S0", "&truth", ALSO_WRITING);
        signature("field 1 0", "&S1", "&byte", ALSO_WRITING);
        given("field 0 0", split("&!S0"), "&long");
        signature("field! 0 0", "&!S0", "&!long", SEVEN);
        signature("field! 0 1", "&!S0", "&!truth", SEVEN);
        signature("field! 1 0", "&!S1", "&!byte", SEVEN);
        // "18 READ takes any reference: .. that"; "20 takes a writing reference: one that does not write"
        for (String word : WORDS) {
            String to = word.replace("&", "").replace("!", "");
            String read = !word.startsWith("&") ? "FAULTY 33 1" : to.equals("S1") ? "FAULTY 34 1" : "DONE";
            Check.due("read " + word, publish(word, to, "move 0; read; store 1; long 0; abort"), read);
            String freeze = !word.startsWith("&") ? "FAULTY 33 1" : !word.startsWith("&!") ? "FAULTY 37 1" : "DONE";
            Check.due("freeze " + word, publish(word, "&" + to, "move 0; freeze; store 1; long 0; abort"), freeze);
        }
        Check.due("read nothing", publish("", "", "read"), "FAULTY 31 0");
        Check.due("freeze nothing", publish("", "", "freeze"), "FAULTY 31 0");
    }

    /** "19 WRITE takes a writing reference, and what it points to" */
    private static void writing() {
        for (String reference : WORDS) {
            for (String value : WORDS) {
                String to = reference.replace("&!", "");
                String want = !reference.startsWith("&") ? "FAULTY 33 2" : !reference.startsWith("&!") ? "FAULTY 37 2"
                    : !to.equals(value) ? "FAULTY 33 2" : to.equals("S1") ? "FAULTY 34 2" : "DONE";
                Check.due("write " + value + " to " + reference,
                    publish(value + " " + reference, "", "move 0; move 1; write; long 0; abort"), want);
            }
            String alone = !reference.startsWith("&") ? "33" : reference.startsWith("&!") ? "31" : "37";
            Check.due("write nothing to " + reference, publish(reference, "", "move 0; write"), "FAULTY " + alone + " 1");
        }
        Check.due("write nothing", publish("", "", "write"), "FAULTY 31 0");
        Check.due("write gives nothing", publish("long &!long", "", "move 0; move 1; write; pop"), "FAULTY 31 3");
    }

    /** "21 PACK takes the fields of structure a, the last one topmost: it; 22 takes it: its fields likewise." */
    private static void packing() {
        signature("pack 0", "long truth", "S0", EXACTLY);
        signature("pack 1", "byte", "S1", EXACTLY);
        signature("unpack 0", "S0", "long truth", EXACTLY);
        signature("unpack 1", "S1", "byte", EXACTLY);
    }

    /** "23 CALL function a takes what that takes, the last one topmost .. It puts what that gives" */
    private static void calling() {
        signature("call 1", "truth byte long wide addr", "addr wide long byte truth", EXACTLY);
        signature("call 2", "", "truth truth truth truth truth truth truth truth", EXACTLY);
        signature("call 3", "&S0 &!S1", "&!S1 &S0", EXACTLY);
    }

    /** "24 .. 28 take two numbers (byte, long, wide) of one type: that; 29 30 31 also two truths" */
    private static void reckoning() {
        for (String op : new String[] {"add", "sub", "mul", "div", "rem", "and", "or", "xor"}) {
            List<String> fit = new ArrayList<>(NUMBERS);
            if (op.equals("and") || op.equals("or") || op.equals("xor")) {
                fit.add("truth");
            }
            two(op, fit, "", 33);
        }
    }

    /** An operation with two of one type, for all pairs of types; each alone, and none; gives "" for the same type. */
    private static void two(String op, List<String> fit, String gives, int unfit) {
        for (String top : WORDS) {
            Check.due(op + " of " + top + " alone", publish(top, "", "move 0; " + op), fit.contains(top) ? "FAULTY 31 1" : "FAULTY 33 1");
            for (String below : WORDS) {
                boolean fits = fit.contains(top) && below.equals(top);
                Check.due(op + " of " + below + " and " + top, publish(below + " " + top, "", "move 0; move 1; " + op + "; long 0; abort"),
                    fits ? "DONE" : "FAULTY " + unfit + " 2");
                if (fits) {
                    given(op, new String[] {below, top}, gives.isEmpty() ? top : gives);
                }
            }
        }
        Check.due(op + " of nothing", publish("", "", op), "FAULTY 31 0");
    }

    /** "32, 33 a byte, then a number: that; 34 a truth: a truth" */
    private static void shifting() {
        for (String op : new String[] {"up", "down"}) {
            for (String below : WORDS) {
                boolean fits = NUMBERS.contains(below);
                Check.due(op + " of " + below, publish(below + " byte", "", "move 0; move 1; " + op + "; long 0; abort"),
                    fits ? "DONE" : "FAULTY 33 2");
                if (fits) {
                    given(op, new String[] {below, "byte"}, below);
                }
                Check.due(op + " by " + below, publish(below, "", "move 0; " + op), below.equals("byte") ? "FAULTY 31 1" : "FAULTY 33 1");
            }
            Check.due(op + " of nothing", publish("", "", op), "FAULTY 31 0");
        }
        signature("not", "truth", "truth", EXACTLY);
    }

    /** "36, 37 take two of one type, no references: 4 without drop: a truth; 38 .. 41 two numbers of one type: a truth" */
    private static void comparing() {
        for (String op : new String[] {"below", "notabove", "above", "notbelow"}) {
            two(op, NUMBERS, "truth", 33);
        }
        for (String op : new String[] {"same", "differ"}) {
            for (String top : WORDS) {
                String alone = top.startsWith("&") ? "33" : "31";
                Check.due(op + " of " + top + " alone", publish(top, "", "move 0; " + op), "FAULTY " + alone + " 1");
                for (String below : WORDS) {
                    String want = top.startsWith("&") || !below.equals(top) ? "FAULTY 33 2" : top.equals("S1") ? "FAULTY 34 2" : "DONE";
                    Check.due(op + " of " + below + " and " + top,
                        publish(below + " " + top, "", "move 0; move 1; " + op + "; long 0; abort"), want);
                    if (want.equals("DONE")) {
                        given(op, new String[] {below, top}, "truth");
                    }
                }
            }
            Check.due(op + " of nothing", publish("", "", op), "FAULTY 31 0");
        }
    }

    /** "42 43 44 a number: a byte, long, wide" */
    private static void casting() {
        for (String to : NUMBERS) {
            for (String word : WORDS) {
                boolean fits = NUMBERS.contains(word);
                Check.due(word + " to " + to, publish(word, to, "move 0; to" + to + "; store 1; long 0; abort"),
                    fits ? "DONE" : "FAULTY 33 1");
            }
            Check.due("nothing to " + to, publish("", "", "to" + to), "FAULTY 31 0");
        }
    }

    /** "47 takes structure a; 48 .. 51 an address; .. 48 puts structure a, 49 a truth, 50 a reference .., 51 a writing one" */
    private static void resources() {
        for (int s = 0; s < 2; s++) {
            signature("put " + s, "S" + s, "", EXACTLY);
            signature("take " + s, "addr", "S" + s, EXACTLY);
            signature("has " + s, "addr", "truth", EXACTLY);
            signature("borrow " + s, "addr", "&S" + s, EXACTLY);
            signature("borrow! " + s, "addr", "&!S" + s, EXACTLY);
        }
    }

    /** "52 takes b values of element type a .. 53 .. 59 takes a vector of byte: one." */
    private static void vectors() {
        signature("vector 0 0", "", "*long", EXACTLY);
        signature("vector 0 1", "long", "*long", EXACTLY);
        signature("vector 1 3", "byte byte byte", "*byte", EXACTLY);
        signature("vector 2 2", "*long *long", "**long", EXACTLY);
        signature("length 0", "&*long", "long", ALSO_WRITING);
        given("length 0", split("&!*long"), "long");
        signature("element 0", "&*long long", "&long", ALSO_WRITING);
        given("element 1", split("&!*byte long"), "&byte");
        signature("element! 0", "&!*long long", "&!long", SEVEN);
        signature("push 0", "&!*long long", "", SEVEN);
        signature("push 1", "&!*byte byte", "", SEVEN);
        signature("last 0", "&!*long", "long", SEVEN);
        signature("last 1", "&!*byte", "byte", SEVEN);
        signature("swap 0", "&!*long long long", "", SEVEN);
        signature("digest", "*byte", "*byte", EXACTLY);
    }

    /** "takes from the stack what is told here, the topmost first": a wrong one below a wrong one, and more below. */
    private static void topmostFirst() {
        // The reference does not write (7), but the long above it is none (3); and the other way.
        Check.due("3 above 7", publish("&*long byte", "", "move 0; move 1; element! 0"), "FAULTY 33 2");
        Check.due("7 below a long", publish("&*long long", "", "move 0; move 1; element! 0"), "FAULTY 37 2");
        Check.due("7 above 3", publish("byte &long", "", "move 0; move 1; write"), "FAULTY 37 2");
        Check.due("3 above 1", publish("byte", "", "move 0; element! 0"), "FAULTY 33 1");
        Check.due("1 below a long", publish("long", "", "move 0; element! 0"), "FAULTY 31 1");
        Check.due("64 of a vector", publish("", "", "long 1; ".repeat(64) + "vector 0 64; long 0; abort"), "DONE");
        Check.due("63 for a vector of 64", publish("", "", "long 1; ".repeat(63) + "vector 0 64; long 0; abort"), "FAULTY 31 63");
        Check.due("the lowest of 64 is wrong", publish("", "", "yes; " + "long 1; ".repeat(63) + "vector 0 64"), "FAULTY 33 64");
    }

    /** "then it puts on the stack: 2 above 64 values" */
    private static void mostValues() {
        for (String op : new String[] {"byte 1", "long 1", "wide 1 1", "yes", "no", "addr 1", "sender", "copy 0", "move 0", "lend 0",
            "lend! 0", "vector 0 0"}) {
            Check.due("the 64th by " + op, publish("long", "", "yes; ".repeat(63) + op + "; ret"), "FAULTY 42 64");
            Check.due("a 65th by " + op, publish("long", "", "yes; ".repeat(64) + op), "FAULTY 32 64");
        }
        // What takes as many as it puts is fine with 64.
        String[] same = {"yes; not", "long 1; tobyte", "vector 1 0; digest", "move 0; freeze", "sender; has 0", "sender; borrow 0",
            "sender; borrow! 0", "sender; take 1", "byte 1; pack 1", "nothing", "copy 0; read", "copy 0; last 0"};
        for (String op : same) {
            String first = op.contains(";") ? "" : "yes; ";
            Check.due("64 with " + op, publish("&!*long", "", "yes; ".repeat(63) + first + op + "; pop; long 0; abort"),
                op.endsWith("take 1") || op.endsWith("pack 1") ? "FAULTY 34 65" : "DONE");
        }
        // An ABORT's long, too, has to find room.
        Check.due("no room for its long", publish("", "", "yes; ".repeat(64) + "long 0; abort"), "FAULTY 32 64");
        Check.due("other faults before it", publish("long", "", "yes; ".repeat(64) + "copy 0"), "FAULTY 32 64");
        Check.due("5 before 2", publish("", "long", "yes; ".repeat(64) + "copy 0"), "FAULTY 35 64");
        Check.due("4 before 2", publish("S1", "", "yes; ".repeat(64) + "copy 0"), "FAULTY 34 64");
        Check.due("3 before 2", publish("&long", "", "yes; ".repeat(64) + "lend 0"), "FAULTY 33 64");
        Check.due("6 before 2", publish("long", "", "lend! 0; " + "yes; ".repeat(63) + "copy 0"), "FAULTY 36 64");
    }

    /** The same where several are put at once: 22 and 23. */
    private static void mostValuesOfCalls() {
        Check.due("63 by unpacking", publish("S0", "", "yes; ".repeat(62) + "move 0; unpack 0; ret"), "FAULTY 42 64");
        Check.due("65 by unpacking", publish("S0", "", "yes; ".repeat(63) + "move 0; unpack 0"), "FAULTY 32 64");
        Check.due("64 by a call", publish("", "", "yes; ".repeat(56) + "call 2; ret"), "FAULTY 42 57");
        Check.due("65 by a call", publish("", "", "yes; ".repeat(57) + "call 2"), "FAULTY 32 57");
        Check.due("72 by a call", publish("", "", "yes; ".repeat(64) + "call 2"), "FAULTY 32 64");
        String five = "yes; byte 1; long 1; wide 1 1; sender; ";
        Check.due("64 by five for five", publish("", "", "yes; ".repeat(59) + five + "call 1; ret"), "FAULTY 42 65");
    }
}
