/** Faults 31 to 45: functions that have each one, and functions beside them that have none. */
final class LookTest {
    /** The function that is looked at comes behind the helpers. */
    private static final int SUBJECT = 9;

    private LookTest() {
    }

    /**
     * Structures: 0 all abilities (a long), 1 store alone (a long), 2 key and store (S1, long),
     * 3 copy, drop, store (long, bytes), 4 the coin. Elements: 0 long, 1 byte, 2 S1, 3 ****long.
     * Functions: 0 lends S3's long to write, 1 uses resources, 2 takes two to write, 3 uses
     * resources and takes one, 4 takes one to read and one to write and gives the first, 5 the
     * same but gives nothing, 6 gives what it takes to write, 7 likewise and takes one to read, 8
     * uses resources and takes a long to read. Foreign ones: 10 .. 15 the coin's.
     */
    private static Assembly module() {
        return new Assembly(9)
            .structure(15, "long").structure(4, "long").structure(12, "S1 long").structure(7, "long *byte")
            .coin(4)
            .element("long").element("byte").element("S1").element("****long")
            .function(1, "&!S3", "&!long", "", "move 0; field! 3 0; ret")
            .function(5, "", "", "", "ret")
            .function(1, "&!S3 &!S3", "", "", "ret")
            .function(5, "&S3", "", "", "ret")
            .function(1, "&S3 &!S3", "&S3", "", "move 0; ret")
            .function(1, "&S3 &!S3", "", "", "ret")
            .function(1, "&!long", "&!long", "", "move 0; ret")
            .function(1, "&S3 &!long", "&!long", "", "move 1; ret")
            .function(5, "&long", "", "", "ret");
    }

    /** want is DONE, or a fault and the instruction where it is. */
    private static void look(String want, int flags, String takes, String gives, String locals, String code) {
        String due = want;
        if (!want.equals("DONE")) {
            String[] words = want.split(" ");
            int fault = 30 + Integer.parseInt(words[0]);
            due = "FAULTY " + fault + " " + (1024 * SUBJECT + Integer.parseInt(words[1]));
        }
        Check.due(takes + " -> " + gives + " [" + locals + "] " + code,
            new Bench().publish(module().function(flags, takes, gives, locals, code)), due);
    }

    /** A function without resources that gives nothing. */
    private static void look(String want, String takes, String locals, String code) {
        look(want, 0, takes, "", locals, code);
    }

    public static void main(String[] args) {
        stack();
        returning();
        branches();
        joining();
        comingBack();
        locals();
        borrowing();
        writing();
        calling();
        callingWithResources();
        numbers();
        comparing();
        resources();
        vectors();
        order();
        Check.end();
    }

    private static void stack() {
        look("1 0", "", "", "pop");
        look("4 1", "S1", "", "move 0; pop");
        look("4 1", "", "", "vector 2 0; pop");
        look("DONE", "", "", "yes; pop; ret");
        look("DONE", "", "", "vector 0 0; pop; ret");
        // 64 values are the most, however they come.
        String most = "yes; ".repeat(64);
        look("DONE", "", "", most + "pop; ".repeat(64) + "ret");
        look("2 64", "", "", most + "yes");
        look("2 64", "long", "", most + "copy 0");
        look("2 64", "long", "", most + "move 0");
        look("2 64", "long", "", most + "lend 0");
        look("2 64", "", "", most + "vector 0 0");
        look("2 64", "", "", most + "sender");
        look("2 64", "S3", "", "yes; ".repeat(63) + "move 0; unpack 3");
        look("DONE", "S3", "", "yes; ".repeat(62) + "move 0; unpack 3; " + "pop; ".repeat(64) + "ret");
    }

    private static void returning() {
        look("12 1", "", "", "yes; ret");
        look("12 0", 0, "", "truth", "", "ret");
        look("12 1", 0, "", "long", "", "yes; ret");
        look("12 2", 0, "", "long truth", "", "yes; long 1; ret");
        look("12 2", 0, "", "long", "", "long 1; long 1; ret");
        look("DONE", 0, "", "long truth", "", "long 1; yes; ret");
        look("12 1", 0, "&!S0", "&S0", "", "move 0; ret");
        look("13 0", "S1", "", "ret");
        look("13 2", "S1", "S1", "move 0; store 1; ret");
        look("DONE", 0, "S1", "S1", "", "move 0; ret");
        look("DONE", "S0 &!S1", "", "ret");
        look("14 1", 0, "S0", "&S0", "", "lend 0; ret");
        look("14 2", 4, "", "&S0", "", "sender; borrow 0; ret");
        look("14 2", 0, "S0", "&!long", "", "lend! 0; field! 0 0; ret");
        look("DONE", 0, "&S0", "&long", "", "move 0; field 0 0; ret");
        look("DONE", 0, "long long long long long long long &S0", "&S0", "", "move 7; ret");
        // 12 before 14 before 13.
        look("12 1", 0, "S1", "&S0", "", "lend 0; ret");
        look("14 1", 0, "S1", "&S1", "", "lend 0; ret");
        look("11 0", "", "", "nothing");
        look("11 1", "", "", "yes; pop");
        look("DONE", "", "", "long 1; abort");
        look("DONE", 0, "S1", "long", "", "move 0; yes; long 1; abort");
        look("3 1", "", "", "yes; abort");
        look("1 0", "", "", "abort");
    }

    private static void branches() {
        look("10 1", "", "", "ret; ret");
        look("10 2", "", "", "long 1; abort; ret");
        look("10 1", "", "", "go 2; nothing; ret");
        look("DONE", "", "", "go 1; ret");
        look("DONE", "", "", "go 0");
        look("DONE", "", "", "nothing; go 0");
        // Only a branch from behind leads there.
        look("10 1", "", "", "go 2; nothing; go 1");
        look("8 1", "", "", "yes; go 2; ret");
        look("8 2", "", "", "yes; yes; goif 0");
        look("3 1", "", "", "long 1; goif 0");
        look("1 0", "", "", "goifnot 0");
        look("DONE", "", "", "yes; goifnot 0; ret");
        look("DONE", "", "", "yes; goif 2; ret");
        look("11 1", "", "", "yes; goif 0");
        // Where a branch leads, from before or behind, the stack is empty.
        look("8 1", "", "", "yes; nothing; pop; go 1");
        look("8 3", "", "", "yes; goif 3; yes; pop; ret");
        look("DONE", "", "", "yes; goif 4; yes; pop; ret");
        look("8 1", "", "", "long 1; pop; yes; goif 1; ret");
    }

    private static void joining() {
        // A local without drop that is there on one way only: at the end of the second way.
        look("9 4", "truth", "S1", "move 0; goif 5; long 1; pack 1; store 1; ret");
        look("9 4", "truth S1", "", "copy 0; goif 5; move 1; unpack 1; pop; ret");
        // One with drop is gone then.
        look("5 5", "truth", "long", "move 0; goif 4; long 1; store 1; nothing; copy 1; ret");
        look("DONE", "truth", "long", "move 0; goif 4; long 1; store 1; nothing; long 2; store 1; ret");
        // By a branch to the next instruction both ways come there.
        look("DONE", "truth S1", "S1", "copy 0; goif 2; long 1; abort");
        // A reference has the origins of both ways: neither local may go.
        String both = "long 1; store 1; long 2; store 2; copy 0; goif 9; lend! 1; store 3; go 11; lend! 2; store 3; ";
        look("6 11", "truth", "long long &!long", both + "move 1; ret");
        look("6 11", "truth", "long long &!long", both + "move 2; ret");
        look("DONE", "truth", "long long &!long", both + "long 5; copy 3; write; ret");
        // It is inside if it is so on one way: a copy of it is not sole then.
        String inside = "copy 0; goif 6; copy 1; call 0; store 3; go 8; copy 2; store 3; ";
        look("6 10", "truth &!S3 &!long", "&!long", inside + "long 5; copy 3; write; ret");
        look("DONE", "truth &!S3 &!long", "&!long", inside + "long 5; move 3; write; ret");
        String whole = "copy 0; goif 5; copy 1; store 3; go 7; copy 2; store 3; ";
        look("DONE", "truth &!long &!long", "&!long", whole + "long 5; copy 3; write; ret");
    }

    private static void comingBack() {
        // What is there must be there again.
        look("9 2", "long", "", "move 0; pop; go 0");
        look("DONE", "long", "", "move 0; pop; long 1; store 0; go 0");
        // What is gone must be gone again, or have drop.
        look("DONE", "", "long", "long 1; store 0; go 0");
        look("9 3", "", "S1", "long 1; pack 1; store 0; go 0");
        // References come with no other origins, and inside only if they were so.
        look("DONE", "&!long &!long", "", "copy 0; store 0; go 0");
        look("9 2", "&!long &!long", "", "copy 1; store 0; go 0");
        look("9 3", "&!long", "", "copy 0; call 6; store 0; go 0");
        look("DONE", "&!long", "", "move 0; call 6; store 0; nothing; move 0; call 6; store 0; go 3");
    }

    private static void locals() {
        for (String op : new String[] {"copy", "move", "lend", "lend!"}) {
            look("5 0", "", "long", op + " 0");
        }
        look("5 2", "long", "", "move 0; pop; move 0");
        look("4 0", "S1", "", "copy 0");
        look("DONE", "S0", "", "copy 0; pop; ret");
        look("3 1", "S0", "", "yes; store 0");
        look("1 0", "S0", "", "store 0");
        look("4 2", "S1 S1", "", "move 0; nothing; store 1");
        look("DONE", 0, "S1", "S1", "S1", "move 0; store 1; move 1; ret");
        look("DONE", "S0 S0", "", "move 0; store 1; ret");
        // While it is lent.
        look("DONE", "S0", "", "lend 0; copy 0; pop; pop; ret");
        look("6 1", "S0", "", "lend! 0; copy 0");
        look("6 1", "S0", "", "lend 0; move 0");
        look("6 2", "S0 S0", "", "lend 0; move 1; store 0");
        look("DONE", "S0 S0", "", "lend 0; move 1; pop; pop; ret");
        look("6 2", "S0", "&S0", "lend 0; store 1; move 0");
        look("DONE", "S0", "&S0", "lend 0; store 1; move 1; pop; move 0; pop; ret");
        // References may be moved, copied and stored over whatever is live.
        look("DONE", "&!S0", "&!S0", "copy 0; store 1; copy 1; move 0; store 1; pop; ret");
        // 4 before 6.
        look("4 1", "S1", "", "lend! 0; copy 0");
        look("4 2", "S1 S1", "", "lend 0; move 1; store 0");
    }

    private static void borrowing() {
        look("3 0", "&S0", "", "lend 0");
        look("3 0", "&!S0", "", "lend! 0");
        look("5 2", "&S0", "", "move 0; pop; lend 0");
        look("DONE", "S0", "", "lend 0; lend 0; pop; pop; ret");
        look("6 1", "S0", "", "lend! 0; lend 0");
        look("6 1", "S0", "", "lend 0; lend! 0");
        look("6 1", "S0", "", "lend! 0; lend! 0");
        look("DONE", "S0 S0", "", "lend! 0; lend! 1; pop; pop; ret");
        look("6 2", "S0", "", "lend! 0; field! 0 0; lend 0");
        look("6 2", "S0", "", "lend! 0; freeze; lend! 0");
        look("DONE", "S0", "", "lend! 0; freeze; lend 0; pop; pop; ret");
        look("1 0", "S0", "", "field 0 0");
        look("3 1", "S0", "", "copy 0; field 0 0");
        look("3 1", "S0", "", "lend 0; field 3 0");
        look("3 1", "S0", "", "lend 0; field! 3 0");
        look("7 1", "S0", "", "lend 0; field! 0 0");
        look("DONE", "S0", "", "lend! 0; field 0 0; pop; ret");
        look("12 2", 0, "&!S0", "&!long", "", "move 0; field 0 0; ret");
        look("1 0", "", "", "read");
        look("3 1", "S0", "", "copy 0; read");
        look("4 1", "S1", "", "lend 0; read");
        look("DONE", 0, "S0", "S0", "", "lend! 0; read; ret");
        look("1 0", "", "", "freeze");
        look("3 1", "S0", "", "copy 0; freeze");
        look("7 1", "S0", "", "lend 0; freeze");
        look("DONE", 0, "&!S0", "&S0", "", "move 0; freeze; ret");
    }

    private static void writing() {
        look("DONE", "S0 S0", "", "move 1; lend! 0; write; ret");
        look("3 2", "S0 S0", "", "lend! 0; move 1; write");
        look("7 2", "S0 S0", "", "move 1; lend 0; write");
        look("3 2", "S0 S3", "", "move 1; lend! 0; write");
        look("1 1", "S0", "", "lend! 0; write");
        look("4 2", "S1 S1", "", "move 1; lend! 0; write");
        // Others that are live may write it whole; with a part, or one that reads, it is not sole.
        look("DONE", "S0 S0", "&!S0", "lend! 0; store 2; move 1; copy 2; write; ret");
        look("DONE", "S0", "&!S0", "lend! 0; store 1; long 5; copy 1; field! 0 0; write; ret");
        look("DONE", "S0", "&!long", "lend! 0; field! 0 0; store 1; long 5; move 1; write; ret");
        look("6 5", "S0", "&!long", "lend! 0; field! 0 0; store 1; long 5; copy 1; write");
        String kept = "lend! 0; store 3; copy 3; ";
        look("6 7", "S0 S0", "&!long &!S0", kept + "field! 0 0; store 2; move 1; copy 3; write");
        look("6 7", "S0 S0", "&S0 &!S0", kept + "freeze; store 2; move 1; copy 3; write");
        look("6 6", "S0 S0", "&S0 &!S0", kept + "freeze; move 1; copy 3; write");
        look("DONE", "S0 S0 S0", "", "lend 1; move 2; lend! 0; write; pop; ret");
        // 4 before 6.
        look("4 6", "S1 S1", "&!S1", "lend! 0; store 2; copy 2; freeze; move 1; copy 2; write");
    }

    private static void calling() {
        look("1 0", "", "", "call 0");
        look("3 1", "", "", "yes; call 0");
        look("3 1", "S3", "", "lend 0; call 0");
        look("3 2", "S3 S3", "", "lend! 0; lend! 1; call 5");
        look("DONE", "S3", "", "lend! 0; call 0; pop; ret");
        look("DONE", "S3 S3", "", "lend! 0; lend! 1; call 2; ret");
        look("6 2", "&!S3", "", "copy 0; copy 0; call 2");
        look("DONE", "&!S3", "", "copy 0; call 0; pop; ret");
        look("6 3", "&!S3", "", "copy 0; freeze; copy 0; call 5");
        look("DONE", "S3 S3", "", "lend 0; lend! 1; call 5; ret");
        // What it gave is inside what it took.
        look("6 4", "&!S3", "&!long", "copy 0; call 0; store 1; copy 0; call 0");
        look("6 5", "&!S3 S3", "&!long", "copy 0; call 0; store 2; move 1; copy 0; write");
        // One that reads has the origins of all that were taken, one that writes of those that write.
        look("6 3", "S3 S3", "", "lend 0; lend! 1; call 4; move 0");
        look("6 3", "S3 S3", "", "lend 0; lend! 1; call 4; move 1");
        look("6 3", "S3 long", "", "lend 0; lend! 1; call 7; move 1");
        look("DONE", "S3 long", "", "lend 0; lend! 1; call 7; move 0; pop; pop; ret");
        look("14 3", 0, "&S3 S3", "&S3", "", "move 0; lend! 1; call 4; ret");
        look("DONE", 0, "&S3 &!S3", "&S3", "", "move 0; move 1; call 4; ret");
        // Coins.
        look("DONE", 0, "long", "long", "S4",
            "move 0; call 10; store 1; lend 1; call 12; sender; move 1; call 11; ret");
        look("13 4", 0, "long", "long", "S4", "move 0; call 10; store 1; long 1; ret");
        look("4 2", "long", "", "move 0; call 10; pop");
        look("3 1", "S4", "", "lend! 0; call 12");
    }

    private static void callingWithResources() {
        look("15 0", "", "", "call 1");
        look("15 0", 3, "", "", "", "call 1");
        look("DONE", 4, "", "", "", "call 1; ret");
        look("6 2", 4, "", "", "", "sender; borrow 0; call 1");
        look("6 3", 4, "", "", "&!S0", "sender; borrow! 0; store 0; call 1");
        look("DONE", 4, "", "", "", "sender; borrow 0; pop; call 1; ret");
        look("6 3", 4, "", "", "", "sender; borrow 0; field 0 0; call 8");
        look("DONE", 4, "long", "", "", "lend 0; call 8; ret");
        look("DONE", 4, "S3", "", "", "lend 0; call 3; ret");
        look("DONE", 4, "", "", "", "sender; borrow! 0; field! 0 0; call 6; pop; ret");
    }

    private static void numbers() {
        for (String op : new String[] {"add", "sub", "mul", "div", "rem", "and", "or", "xor"}) {
            for (String type : new String[] {"byte", "long", "wide"}) {
                look("DONE", 0, type + " " + type, type, "", "move 0; move 1; " + op + "; ret");
            }
            boolean bits = op.equals("and") || op.equals("or") || op.equals("xor");
            look(bits ? "DONE" : "3 2", 0, "truth truth", "truth", "", "move 0; move 1; " + op + "; ret");
            look("3 2", "wide long", "", "move 0; move 1; " + op);
            look("3 2", "long wide", "", "move 0; move 1; " + op);
            look("3 2", "addr addr", "", "move 0; move 1; " + op);
            look("3 1", "addr", "", "move 0; " + op);
            look("1 1", "long", "", "move 0; " + op);
            look("1 0", "", "", op);
        }
        for (String op : new String[] {"up", "down"}) {
            for (String type : new String[] {"byte", "long", "wide"}) {
                look("DONE", 0, type + " byte", type, "", "move 0; move 1; " + op + "; ret");
            }
            look("3 2", "byte long", "", "move 0; move 1; " + op);
            look("3 2", "truth byte", "", "move 0; move 1; " + op);
            look("1 1", "byte", "", "move 0; " + op);
        }
        look("DONE", 0, "truth", "truth", "", "move 0; not; ret");
        look("3 1", "byte", "", "move 0; not");
        look("1 0", "", "", "not");
        for (String to : new String[] {"byte", "long", "wide"}) {
            for (String type : new String[] {"byte", "long", "wide"}) {
                look("DONE", 0, type, to, "", "move 0; to" + to + "; ret");
            }
            look("3 1", "addr", "", "move 0; to" + to);
            look("3 1", "truth", "", "move 0; to" + to);
            look("1 0", "", "", "to" + to);
        }
    }

    private static void comparing() {
        for (String op : new String[] {"same", "differ"}) {
            for (String type : new String[] {"truth", "byte", "wide", "addr", "S0", "*S3", "**long"}) {
                look("DONE", 0, type + " " + type, "truth", "", "move 0; move 1; " + op + "; ret");
            }
            look("3 2", "long byte", "", "move 0; move 1; " + op);
            look("3 2", "S0 S1", "", "move 1; move 0; " + op);
            look("3 2", "&S0 &S0", "", "move 0; move 1; " + op);
            look("4 2", "S1 S1", "", "move 0; move 1; " + op);
            look("1 1", "long", "", "move 0; " + op);
        }
        for (String op : new String[] {"below", "notabove", "above", "notbelow"}) {
            for (String type : new String[] {"byte", "long", "wide"}) {
                look("DONE", 0, type + " " + type, "truth", "", "move 0; move 1; " + op + "; ret");
            }
            look("3 2", "truth truth", "", "move 0; move 1; " + op);
            look("3 2", "addr addr", "", "move 0; move 1; " + op);
            look("3 2", "long wide", "", "move 0; move 1; " + op);
        }
    }

    private static void resources() {
        for (String op : new String[] {"take", "has", "borrow", "borrow!"}) {
            look("1 0", 4, "", "", "", op + " 0");
            look("3 1", 4, "", "", "", "long 1; " + op + " 0");
            look("15 1", 3, "", "", "", "sender; " + op + " 0");
            look("15 1", 3, "", "", "", "sender; " + op + " 1");
            look("4 1", 4, "", "", "", "sender; " + op + " 1");
        }
        look("15 1", 3, "S0", "", "", "move 0; put 0");
        look("4 1", 4, "S1", "", "", "move 0; put 1");
        look("3 1", 4, "S0", "", "", "move 0; put 2");
        look("DONE", 4, "S0", "", "", "move 0; put 0; ret");
        look("DONE", 4, "", "S2", "", "sender; take 2; ret");
        look("4 2", 4, "", "", "", "sender; take 2; pop");
        look("DONE", 4, "", "truth", "", "sender; has 2; ret");
        look("6 3", 4, "", "", "", "sender; borrow 0; sender; take 0");
        look("6 3", 4, "", "", "", "sender; borrow! 0; sender; borrow 0");
        look("6 3", 4, "", "", "", "sender; borrow 0; sender; borrow! 0");
        look("6 4", 4, "", "", "", "sender; borrow! 0; field! 0 0; sender; take 0");
        look("DONE", 4, "", "", "", "sender; borrow 0; sender; borrow 0; pop; pop; ret");
        look("DONE", 4, "", "", "", "sender; borrow! 0; sender; borrow! 2; pop; pop; ret");
        look("DONE", 4, "", "", "", "sender; borrow! 0; sender; has 0; pop; pop; ret");
        look("DONE", 4, "S0", "", "", "sender; borrow! 0; move 0; put 0; pop; ret");
        // Structures 0 and 15 have one origin, 0 and 14 have not.
        Assembly many = new Assembly(9);
        Assembly few = new Assembly(9);
        for (int s = 0; s < 16; s++) {
            many.structure(15, "long");
            few.structure(15, "long");
        }
        Check.due("15 as 0", new Bench().publish(many.function(4, "", "", "",
            "sender; borrow! 0; sender; borrow! 15; pop; pop; ret")), "FAULTY 36 3");
        Check.due("14 not as 0", new Bench().publish(few.function(4, "", "", "",
            "sender; borrow! 0; sender; borrow! 14; pop; pop; ret")), "DONE");
    }

    private static void vectors() {
        look("3 2", "", "", "long 1; byte 1; vector 0 2");
        look("1 2", "", "", "long 1; nothing; vector 0 2");
        look("DONE", 0, "", "*long", "", "long 1; long 2; vector 0 2; ret");
        look("DONE", "", "", "yes; long 1; vector 0 1; pop; pop; ret");
        // A fifth 7 is fine on the stack, but nowhere else.
        look("DONE", "", "", "vector 3 0; vector 3 0; same; pop; ret");
        look("3 1", "", "****long", "vector 3 0; store 0");
        look("DONE", 0, "*long", "long", "", "lend 0; length 0; ret");
        look("DONE", 0, "*long", "long", "", "lend! 0; length 0; ret");
        look("3 1", "*byte", "", "lend 0; length 0");
        look("3 1", "*long", "", "copy 0; length 0");
        look("DONE", 0, "*long", "long", "", "lend 0; long 0; element 0; read; ret");
        look("DONE", 0, "*long", "long", "", "lend! 0; long 0; element 0; read; ret");
        look("3 2", "*long", "", "lend 0; byte 0; element 0");
        look("3 2", "*byte", "", "lend 0; long 0; element 0");
        look("DONE", "*long", "", "long 7; lend! 0; long 0; element! 0; write; ret");
        look("7 2", "*long", "", "lend 0; long 0; element! 0");
        look("3 2", "*byte", "", "lend 0; long 0; element! 0");
        look("6 6", "*long", "&!long", "lend! 0; long 0; element! 0; store 1; long 7; copy 1; write");
        look("DONE", "*long", "", "lend! 0; long 1; push 0; ret");
        look("7 2", "*long", "", "lend 0; long 1; push 0");
        look("3 2", "*long", "", "lend! 0; byte 1; push 0");
        look("3 2", "*byte", "", "lend! 0; long 1; push 0");
        look("DONE", 0, "*long", "long", "", "lend! 0; last 0; ret");
        look("DONE", 0, "*S1", "S1 *S1", "", "lend! 0; last 2; move 0; ret");
        look("7 1", "*long", "", "lend 0; last 0");
        look("3 1", "*long", "", "lend! 0; last 1");
        look("DONE", "*long", "", "lend! 0; long 0; long 1; swap 0; ret");
        look("7 3", "*long", "", "lend 0; long 0; long 1; swap 0");
        look("3 3", "*long", "", "lend! 0; long 0; byte 1; swap 0");
        look("3 3", "*long", "", "lend! 0; byte 0; long 1; swap 0");
        // With an element lent the vector is not sole; with the whole lent to write it is.
        String lent = "lend! 0; store 2; copy 2; long 0; element 0; store 1; copy 2; ";
        look("6 8", "*long", "&long &!*long", lent + "long 1; push 0");
        look("6 7", "*long", "&long &!*long", lent + "last 0");
        look("6 9", "*long", "&long &!*long", lent + "long 0; long 1; swap 0");
        look("DONE", "*long", "&long &!*long", lent + "length 0; pop; ret");
        look("DONE", "*long", "&!*long", "lend! 0; store 1; copy 1; long 1; push 0; ret");
        look("DONE", 0, "*byte", "*byte", "", "move 0; digest; ret");
        look("3 1", "*long", "", "move 0; digest");
        look("3 1", "*byte", "", "lend 0; digest");
    }

    private static void order() {
        // The first fault of the first function counts.
        Check.due("first function", new Bench().publish(new Assembly(9).function(0, "", "", "", "ret")
            .function(0, "", "", "", "nothing; pop; pop").function(0, "", "", "", "pop")), "FAULTY 31 1025");
    }
}
