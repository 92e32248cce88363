/** Faults 1 to 14, and 21 to 25: modules that cannot be read or do not fit. */
final class ReadFaultsTest {
    private static final byte[] HEAD = Assembly.bytes(82, 76, 77, 49, 0, 7);

    private ReadFaultsTest() {
    }

    public static void main(String[] args) {
        beginning();
        structures();
        foreign();
        functions();
        numbers();
        rounds();
        sameNumber();
        foreignStructures();
        foreignFunctions();
        abilities();
        depths();
        Check.end();
    }

    private static void raw(String want, int... rest) {
        byte[] bytes = Assembly.join(HEAD, Assembly.bytes(rest));
        Check.due("module " + java.util.Arrays.toString(rest), new Bench().publish(bytes), want);
    }

    private static void whole(String want, int... bytes) {
        Check.due("bytes " + java.util.Arrays.toString(bytes), new Bench().publish(Assembly.bytes(bytes)), want);
    }

    private static void beginning() {
        whole("FAULTY 2 0");
        whole("FAULTY 2 1", 82);
        whole("FAULTY 1 0", 81);
        whole("FAULTY 1 2", 82, 76, 76);
        whole("FAULTY 1 3", 82, 76, 77, 50, 0, 7, 0, 0, 0, 0, 0);
        whole("FAULTY 2 4", 82, 76, 77, 49);
        whole("FAULTY 2 5", 82, 76, 77, 49, 0);
        raw("FAULTY 2 6");
        raw("DONE", 0, 0, 0, 0, 0);
        raw("FAULTY 6 11", 0, 0, 0, 0, 0, 0);
        raw("FAULTY 6 11", 0, 0, 0, 0, 0, 1, 2, 3);
    }

    private static void structures() {
        raw("FAULTY 3 6", 33);
        raw("FAULTY 2 7", 32);
        raw("FAULTY 3 7", 1, 16);
        raw("FAULTY 3 8", 1, 15, 0);
        raw("FAULTY 3 8", 1, 15, 17);
        raw("FAULTY 2 9", 1, 15, 16);
        raw("FAULTY 4 9", 1, 15, 1, 0);
        raw("FAULTY 4 9", 1, 15, 1, 10);
        raw("FAULTY 4 9", 1, 15, 1, 8, 3);
        raw("FAULTY 4 9", 1, 15, 1, 9, 3);
        raw("FAULTY 4 10", 1, 15, 1, 7, 8, 3);
        raw("FAULTY 4 13", 1, 15, 1, 7, 7, 7, 7, 7, 3);
        raw("DONE", 1, 15, 1, 7, 7, 7, 7, 3, 0, 0, 0, 0);
        raw("FAULTY 2 10", 1, 15, 1, 6);
        raw("FAULTY 2 10", 1, 15, 1, 7);
        raw("FAULTY 7 10", 1, 15, 1, 6, 1, 0, 0, 0, 0);
        raw("FAULTY 7 12", 1, 15, 1, 7, 7, 6, 1, 0, 0, 0, 0);
        raw("DONE", 1, 4, 1, 6, 1, 1, 0, 0, 0, 4, 0, 0, 0);
        // What cannot be read comes before numbers that are none.
        raw("FAULTY 6 15", 1, 15, 1, 6, 9, 0, 0, 0, 0, 5);
    }

    private static void foreign() {
        raw("FAULTY 3 7", 0, 33);
        raw("FAULTY 3 11", 0, 1, 0, 0, 0, 16);
        raw("FAULTY 2 11", 0, 1, 0, 0, 0);
        raw("FAULTY 3 8", 0, 0, 33);
        raw("FAULTY 3 12", 0, 0, 1, 0, 0, 0, 8);
        raw("FAULTY 3 13", 0, 0, 1, 0, 0, 0, 1, 9);
        raw("FAULTY 3 14", 0, 0, 1, 0, 0, 0, 1, 0, 9);
        raw("FAULTY 4 15", 0, 0, 1, 0, 0, 0, 1, 1, 8, 8, 3);
        raw("FAULTY 4 15", 0, 0, 1, 0, 0, 0, 1, 1, 9, 0);
        raw("FAULTY 4 19", 0, 0, 1, 0, 0, 0, 1, 1, 9, 7, 7, 7, 7, 7, 3);
        raw("FAULTY 7 16", 0, 0, 1, 0, 0, 0, 1, 1, 8, 6, 0, 0, 0, 0);
        raw("FAULTY 3 9", 0, 0, 0, 33);
        raw("FAULTY 4 10", 0, 0, 0, 1, 9, 3);
        raw("FAULTY 7 11", 0, 0, 0, 1, 6, 0, 0);
    }

    private static void functions() {
        raw("FAULTY 3 10", 0, 0, 0, 0, 65);
        raw("FAULTY 2 11", 0, 0, 0, 0, 64);
        raw("FAULTY 3 11", 0, 0, 0, 0, 1, 8);
        raw("FAULTY 3 12", 0, 0, 0, 0, 1, 7, 9);
        raw("FAULTY 3 13", 0, 0, 0, 0, 1, 7, 0, 9);
        raw("FAULTY 3 14", 0, 0, 0, 0, 1, 7, 0, 0, 33);
        raw("FAULTY 2 15", 0, 0, 0, 0, 1, 7, 0, 0, 32);
        raw("FAULTY 2 16", 0, 0, 0, 0, 1, 7, 0, 0, 0, 0);
        raw("FAULTY 3 15", 0, 0, 0, 0, 1, 7, 0, 0, 0, 0, 0);
        raw("FAULTY 3 15", 0, 0, 0, 0, 1, 7, 0, 0, 0, 4, 1);
        raw("FAULTY 2 17", 0, 0, 0, 0, 1, 7, 0, 0, 0, 4, 0);
        raw("FAULTY 5 17", 0, 0, 0, 0, 1, 7, 0, 0, 0, 0, 1, 60);
        raw("FAULTY 5 17", 0, 0, 0, 0, 1, 7, 0, 0, 0, 0, 1, 255);
        raw("FAULTY 5 18", 0, 0, 0, 0, 1, 7, 0, 0, 0, 0, 2, 35, 60);
        raw("DONE", 0, 0, 0, 0, 1, 7, 0, 0, 0, 0, 1, 1);
        // Operands: a byte, two, a SHORT, a LONG, two LONGS; then the module ends too early.
        for (int op : new int[] {5, 11, 12, 13, 14, 15, 21, 22, 23, 47, 48, 49, 50, 51, 53, 54, 55, 56, 57, 58}) {
            raw("FAULTY 2 18", 0, 0, 0, 0, 1, 7, 0, 0, 0, 0, 1, op);
        }
        for (int op : new int[] {2, 3, 4, 16, 17, 52}) {
            raw("FAULTY 2 19", 0, 0, 0, 0, 1, 7, 0, 0, 0, 0, 1, op, 0);
        }
        for (int op : new int[] {6, 10}) {
            raw("FAULTY 2 25", 0, 0, 0, 0, 1, 7, 0, 0, 0, 0, 1, op, 0, 0, 0, 0, 0, 0, 0);
        }
        raw("FAULTY 2 33", 0, 0, 0, 0, 1, 7, 0, 0, 0, 0, 1, 7, 0, 0, 0, 0, 0, 0, 0, 0, 0, 0, 0, 0, 0, 0, 0);
        raw("FAULTY 3 20", 0, 0, 0, 1, 3, 1, 7, 0, 0, 0, 0, 1, 52, 0, 65);
    }

    /** A module with what can be named, and one function; the place counts from its code's start. */
    private static void named(String want, String code) {
        Assembly module = new Assembly(7).structure(15, "long truth").coin(1).element("long");
        int before = new Assembly(7).structure(15, "long truth").coin(1).element("long").toBytes().length;
        byte[] bytes = module.function(4, "long", "", "truth", code).toBytes();
        // Behind what was before: flags, lists of 2, 1 and 2 bytes, a SHORT.
        int start = before + 8;
        String[] words = want.split(" ");
        String due = words.length == 1 ? want : "FAULTY " + words[0] + " " + (start + Integer.parseInt(words[1]));
        Check.due(code, new Bench().publish(bytes), due);
    }

    private static void numbers() {
        for (String op : new String[] {"pack", "unpack", "put", "take", "has", "borrow", "borrow!"}) {
            named("7 1", op + " 2");
            named("8 1", op + " 1");
        }
        for (String op : new String[] {"field", "field!"}) {
            named("7 1", op + " 2 0");
            named("8 1", op + " 1 0");
            named("9 2", op + " 0 2");
        }
        for (String op : new String[] {"copy", "move", "store", "lend", "lend!"}) {
            named("10 1", op + " 2");
        }
        named("11 1", "call 7");
        for (String op : new String[] {"length", "element", "element!", "push", "last", "swap"}) {
            named("12 1", op + " 1");
        }
        named("12 1", "vector 1 0");
        for (String op : new String[] {"go", "goif", "goifnot"}) {
            named("13 1", op + " 1");
            named("13 2", "ret; " + op + " 65535");
        }
        // From the beginning on.
        named("10 2", "nothing; copy 2; go 9");
        named("13 1", "go 9; copy 2");
        named("DONE", "ret");
    }

    private static void rounds() {
        raw("FAULTY 14 7", 2, 0, 1, 6, 1, 0, 1, 6, 0, 0, 0, 0, 0);
        raw("FAULTY 14 7", 1, 0, 1, 6, 0, 0, 0, 0, 0);
        raw("FAULTY 14 10", 2, 0, 1, 3, 0, 1, 7, 6, 1, 0, 0, 0, 0);
        // The first one contains another that contains itself, but not itself.
        raw("FAULTY 14 11", 2, 0, 1, 6, 1, 0, 1, 6, 1, 0, 0, 0, 0);
        raw("FAULTY 14 7", 3, 0, 1, 6, 1, 0, 1, 6, 2, 0, 2, 3, 6, 0, 0, 0, 0, 0);
        raw("DONE", 3, 0, 1, 6, 1, 0, 2, 6, 2, 6, 2, 0, 1, 3, 0, 0, 0, 0);
        // Numbers that are none come before that, and it before the module's number.
        whole("FAULTY 14 7", 82, 76, 77, 49, 0, 0, 1, 0, 1, 6, 0, 0, 0, 0, 0);
        raw("FAULTY 7 12", 1, 0, 2, 6, 0, 6, 5, 0, 0, 0, 0);
    }

    private static void sameNumber() {
        whole("FAULTY 21 4", 82, 76, 77, 49, 0, 0, 0, 0, 0, 0, 0);
        Bench bench = new Bench();
        Check.due("first", bench.publish(new Assembly(300)), "DONE");
        Check.due("again", bench.publish(new Assembly(300)), "FAULTY 21 4");
        Check.due("before others", bench.publish(new Assembly(300).foreignStructure(9, 0, 0)), "FAULTY 21 4");
        Check.due("another", bench.publish(new Assembly(301)), "DONE");
    }

    private static Bench withHome() {
        Bench bench = new Bench();
        Assembly home = new Assembly(5).structure(7, "long").structure(3, "truth").foreignStructure(0, 0, 4)
            .function(1, "S0 &S1 *S2", "S1", "", "long 0; abort")
            .function(2, "", "", "", "ret")
            .function(5, "", "", "", "ret")
            .function(3, "&!S2", "&!S2", "", "move 0; ret");
        Check.due("home", bench.publish(home), "DONE");
        return bench;
    }

    private static void foreignStructures() {
        Check.due("fits", withHome().publish(new Assembly(7).foreignStructure(5, 0, 7).foreignStructure(0, 0, 4)
            .foreignStructure(5, 1, 3)), "DONE");
        Check.due("no module", withHome().publish(new Assembly(7).foreignStructure(0, 0, 4)
            .foreignStructure(6, 0, 7)), "FAULTY 22 1");
        Check.due("itself", withHome().publish(new Assembly(7).structure(7, "long")
            .foreignStructure(7, 0, 7)), "FAULTY 22 0");
        Check.due("no structure", withHome().publish(new Assembly(7).foreignStructure(5, 3, 7)), "FAULTY 22 0");
        Check.due("a foreign one there", withHome().publish(new Assembly(7).foreignStructure(5, 2, 4)), "FAULTY 22 0");
        Check.due("other abilities", withHome().publish(new Assembly(7).foreignStructure(5, 1, 3)
            .foreignStructure(5, 0, 15)), "FAULTY 22 1");
        Check.due("the coin's abilities", withHome().publish(new Assembly(7).foreignStructure(0, 0, 5)), "FAULTY 22 0");
        Check.due("before functions", withHome().publish(new Assembly(7).foreignStructure(0, 0, 5)
            .foreignFunction(9, 9, 0, "", "")), "FAULTY 22 0");
    }

    private static Assembly guest() {
        return new Assembly(7).structure(15, "long").foreignStructure(5, 1, 3).foreignStructure(0, 0, 4)
            .foreignStructure(5, 0, 7);
    }

    private static void calls(String want, int module, int function, int flags, String takes, String gives) {
        Check.due("function " + function + " of " + module + " " + flags + " " + takes + " " + gives,
            withHome().publish(guest().foreignFunction(0, 5, 1, "addr", "long")
                .foreignFunction(module, function, flags, takes, gives)), want);
    }

    private static void foreignFunctions() {
        // Structures 1, 2, 3 here are 5.1, 0.0, 5.0.
        calls("DONE", 5, 0, 1, "S3 &S1 *S2", "S1");
        calls("DONE", 5, 0, 2, "S3 &S1 *S2", "S1");
        calls("DONE", 5, 2, 4, "", "");
        calls("DONE", 5, 3, 0, "&!S2", "&!S2");
        calls("FAULTY 23 1", 6, 0, 1, "S3 &S1 *S2", "S1");
        calls("FAULTY 23 1", 7, 0, 1, "", "");
        calls("FAULTY 23 1", 5, 4, 1, "", "");
        calls("FAULTY 23 1", 5, 1, 1, "", "");
        calls("FAULTY 23 1", 5, 2, 1, "", "");
        calls("FAULTY 23 1", 5, 0, 5, "S3 &S1 *S2", "S1");
        calls("FAULTY 23 1", 5, 0, 1, "S3 &S1 *S3", "S1");
        calls("FAULTY 23 1", 5, 0, 1, "S3 &!S1 *S2", "S1");
        calls("FAULTY 23 1", 5, 0, 1, "S3 &S1 S2", "S1");
        calls("FAULTY 23 1", 5, 0, 1, "S0 &S1 *S2", "S1");
        calls("FAULTY 23 1", 5, 0, 1, "S3 &S1 *S2", "");
        calls("FAULTY 23 1", 5, 0, 1, "S3 &S1", "*S2 S1");
        calls("FAULTY 23 1", 5, 0, 1, "S3 &S1 *S2 long", "S1");
        calls("FAULTY 23 1", 0, 6, 1, "", "");
        calls("FAULTY 23 1", 0, 2, 1, "S2", "long");
        Check.due("before abilities", withHome().publish(new Assembly(7).structure(1, "S1")
            .foreignStructure(0, 0, 4).foreignFunction(9, 9, 0, "", "")), "FAULTY 23 0");
    }

    private static void bears(String want, int abilities, int field, String type) {
        Assembly module = new Assembly(7).structure(15, "long").structure(field, "long")
            .structure(abilities, "truth " + type);
        Check.due(abilities + " over " + field + " " + type, new Bench().publish(module), want);
    }

    private static void abilities() {
        for (int one : new int[] {1, 2, 4}) {
            bears("DONE", one, one, "S1");
            bears("DONE", one, one, "**S1");
            bears("FAULTY 24 2", one, 15 - one, "S1");
            bears("FAULTY 24 2", one, 15 - one, "*S1");
        }
        bears("DONE", 8, 4, "S1");
        bears("FAULTY 24 2", 8, 11, "S1");
        bears("DONE", 0, 0, "S1");
        bears("DONE", 15, 7, "***S1");
        bears("FAULTY 24 2", 15, 6, "S1");
        Check.due("a coin has just store", new Bench().publish(new Assembly(7).structure(12, "S1")
            .foreignStructure(0, 0, 4)), "DONE");
        Check.due("no drop for a coin", new Bench().publish(new Assembly(7).structure(6, "S1")
            .foreignStructure(0, 0, 4)), "FAULTY 24 0");
        // All structures before any depth.
        Assembly deep = chain(24, "long").structure(1, "S25").foreignStructure(0, 0, 4);
        Check.due("before depths", new Bench().publish(deep), "FAULTY 24 24");
    }

    private static Assembly chain(int count, String first) {
        Assembly module = new Assembly(7).structure(4, first);
        for (int s = 1; s < count; s++) {
            module.structure(4, "truth S" + (s - 1));
        }
        return module;
    }

    private static void depths() {
        Check.due("depth 24", new Bench().publish(chain(23, "long")), "DONE");
        Check.due("depth 25", new Bench().publish(chain(24, "long")), "FAULTY 25 23");
        Check.due("by vectors 24", new Bench().publish(chain(19, "****long")), "DONE");
        Check.due("by vectors 25", new Bench().publish(chain(20, "****long")), "FAULTY 25 19");
        Check.due("by the coin 24", new Bench().publish(chain(22, "S22").foreignStructure(0, 0, 4)), "DONE");
        Check.due("by the coin 25", new Bench().publish(chain(23, "S23").foreignStructure(0, 0, 4)), "FAULTY 25 22");
        Bench bench = new Bench();
        Assembly deep = new Assembly(5).structure(4, "long");
        for (int s = 1; s < 23; s++) {
            deep.structure(4, "S" + (s - 1));
        }
        bench.publish(deep);
        Check.due("a foreign one's depth 24", bench.publish(new Assembly(7).structure(4, "S1")
            .foreignStructure(5, 21, 4)), "DONE");
        Check.due("a foreign one's depth 25", bench.publish(new Assembly(8).structure(4, "S1")
            .foreignStructure(5, 22, 4)), "FAULTY 25 0");
        // Structures may stand before what they hold.
        Check.due("backwards", new Bench().publish(new Assembly(7).structure(0, "S1").structure(0, "S2")
            .structure(0, "****byte")), "DONE");
        // Depth comes before functions.
        Check.due("before code", new Bench().publish(chain(24, "long").function(0, "", "", "", "pop")), "FAULTY 25 23");
    }
}
