/**
 * Part 3, LOOKING: origins, what is sole, locals, coming to instructions, and the order of the
 * faults at one instruction. Sentences of the document stand in quotes.
 */
final class LookEdgesTest {
    private static final int[] SOME_LOCALS = {0, 1, 7, 8, 9, 30, 31, 32, 33, 38, 39};
    private static final String END = "long 0; abort";

    private LookEdgesTest() {
    }

    public static void main(String[] args) {
        firstLocals();
        originsOfLocals();
        originsOfTaken();
        originsOfResources();
        lentLocals();
        orderAtLocals();
        keeping();
        sole();
        soleOfLocals();
        soleOfCalls();
        insideOfFreeze();
        insideOfParts();
        callsWithResources();
        resourcesLive();
        returning();
        branching();
        comingOnceMore();
        comingWithReferences();
        comingBack();
        comingBackWithReferences();
        notComeTo();
        places();
        otherOperands();
        Check.end();
    }

    /**
     * Structures: 0 all abilities (a long, longs), 1 store and key (a long), 2 none (a long).
     * Elements: 0 long. Functions: 0 the subject, 1 takes longs to write, 2 has RESOURCES, 3 has
     * RESOURCES and takes a long to read, 4 takes two to write, 5 one to write and one to read, 6
     * two to read, 7 gives what it takes to write, 8 gives a reference out of nothing, 9 takes one
     * to read, one to write, and gives one of each.
     */
    private static String publish(int flags, String takes, String gives, String locals, String code) {
        return new Bench().publish(new Assembly(7)
            .structure(15, "long *long").structure(12, "long").structure(0, "long").element("long")
            .function(flags, takes, gives, locals, code)
            .function(0, "&!*long", "", "", "ret")
            .function(4, "", "", "", "ret")
            .function(4, "&long", "", "", "ret")
            .function(0, "&!long &!long", "", "", "ret")
            .function(0, "&!long &long", "", "", "ret")
            .function(0, "&long &long", "", "", "ret")
            .function(0, "&!long", "&!long", "", "move 0; ret")
            .function(0, "", "&long", "", END)
            .function(0, "&long &!long", "&long &!long", "", END));
    }

    /** want is DONE, or a fault and the instruction where it is. */
    private static void look(String want, int flags, String takes, String gives, String locals, String code) {
        String[] words = want.split(" ");
        String due = words.length == 1 ? want : "FAULTY " + (30 + Integer.parseInt(words[0])) + " " + words[1];
        Check.due(takes + " -> " + gives + " [" + locals + "] " + code, publish(flags, takes, gives, locals, code), due);
    }

    private static void look(String want, String takes, String locals, String code) {
        look(want, 4, takes, "", locals, code);
    }

    private static int count(String code) {
        return code.isEmpty() ? 0 : code.split(";").length - (code.endsWith("; ") ? 1 : 0);
    }

    /** "A local is THERE when it holds a value, else GONE: first those that it takes are there." */
    private static void firstLocals() {
        String eight = "long ".repeat(8);
        String further = "long ".repeat(32);
        for (int k = 0; k < 40; k++) {
            for (String op : new String[] {"copy ", "move ", "lend ", "lend! "}) {
                look(k < 8 ? "DONE" : "5 0", eight, further, op + k + "; " + END);
                look("DONE", eight, further, "long 1; store " + k + "; " + op + k + "; " + END);
            }
            look("5 3", eight, further, "long 1; store " + k + "; move " + k + "; move " + k);
        }
    }

    /** "k (0 .. 39) local k": each local has a bit of its own. */
    private static void originsOfLocals() {
        String eight = "long ".repeat(8);
        String further = "long ".repeat(31) + "&!long";
        for (int k : SOME_LOCALS) {
            for (int j : SOME_LOCALS) {
                if (k == 39 || j == 39) {
                    continue;
                }
                String set = "long 1; store " + k + "; long 1; store " + j + "; ";
                look(k == j ? "6 5" : "DONE", eight, further, set + "lend! " + k + "; move " + j + "; " + END);
                // The same when it is kept in the last local.
                look(k == j ? "6 6" : "DONE", eight, further, set + "lend! " + k + "; store 39; copy " + j + "; " + END);
                look(k == j ? "6 5" : "DONE", eight, further, set + "lend! " + k + "; lend " + j + "; " + END);
                look(k == j ? "6 5" : "DONE", eight, further, set + "lend " + k + "; lend! " + j + "; " + END);
                look(k == j ? "6 6" : "DONE", eight, further, set + "lend " + k + "; long 1; store " + j + "; " + END);
            }
        }
        String all = "long ".repeat(32);
        look("6 3", eight, all, "long 1; store 39; lend 39; move 39");
        look("DONE", eight, all, "long 1; store 39; lend 39; move 7; " + END);
        // "14 when one of these is a reference with an origin below 40"
        look("14 1", 0, eight, "&long", all, "lend 0; ret");
        look("14 3", 0, eight, "&long", all, "long 1; store 39; lend 39; ret");
    }

    /** "40 + k what was taken as a reference at k" */
    private static void originsOfTaken() {
        String eight = "&!long ".repeat(8);
        for (int k = 0; k < 8; k++) {
            for (int j = 0; j < 8; j++) {
                look(k == j ? "6 4" : "DONE", eight, "", "copy " + j + "; freeze; long 1; copy " + k + "; write; " + END);
            }
            look("DONE", 0, eight, "&!long", "", "move " + k + "; ret");
            // These are not origins of locals of that number: such a local may go.
            look("DONE", "long ".repeat(k) + "&!long", "", "copy " + k + "; copy " + k + "; " + END);
        }
    }

    /** "48 + s % 15 the resources of structure s" */
    private static void originsOfResources() {
        for (int s = 0; s < 32; s++) {
            for (int r = 0; r < 32; r++) {
                Assembly module = new Assembly(7);
                for (int i = 0; i < 32; i++) {
                    module.structure(15, "long");
                }
                module.function(4, "", "", "", "sender; borrow! " + s + "; sender; borrow! " + r + "; " + END);
                Check.due("resources " + s + " and " + r, new Bench().publish(module), s % 15 == r % 15 ? "FAULTY 36 3" : "DONE");
            }
            // "or above 47": also for the last of them.
            Assembly module = new Assembly(7);
            for (int i = 0; i < 32; i++) {
                module.structure(15, "long");
            }
            module.function(4, "", "&S" + s, "", "sender; borrow " + s + "; ret").function(4, "", "", "", "ret");
            Check.due("gives resource " + s, new Bench().publish(module), "FAULTY 44 2");
        }
    }

    /** Which references may be live when a local is copied, moved, stored and borrowed. */
    private static void lentLocals() {
        String[] lent = {"", "lend 0", "lend! 0", "lend! 0; freeze", "lend 0; field 0 0", "lend! 0; field 0 0", "lend! 0; field! 0 0",
            "lend 0; field 0 1; length 0"};
        String[] kept = {"", "&S0", "&!S0", "&S0", "&long", "&long", "&!long", "long"};
        boolean[] live = {false, true, true, true, true, true, true, false};
        boolean[] writes = {false, false, true, false, false, false, true, false};
        for (int i = 0; i < lent.length; i++) {
            String before = lent[i].isEmpty() ? "" : lent[i] + "; ";
            String store = lent[i].isEmpty() ? "" : lent[i] + "; store 1; ";
            String local = kept[i].isEmpty() ? "long" : kept[i];
            for (String code : new String[] {before, store}) {
                int at = count(code);
                // "11 .. 6, if it is no reference, when a live writing one has its bit"
                look(writes[i] ? "6 " + at : "DONE", "S0", local, code + "copy 0; " + END);
                // "12 .. 6, if it is no reference, when a live one has its bit"
                look(live[i] ? "6 " + at : "DONE", "S0", local, code + "move 0; " + END);
                // "13 .. 6, if it is no reference, when a live one has its bit"
                look(live[i] ? "6 " + (at + 3) : "DONE", "S0", local, code + "long 1; vector 0 0; pack 0; store 0; " + END);
                // "14, 15 .. 6 when a live writing one (14), any live one (15) has its bit"
                look(writes[i] ? "6 " + at : "DONE", "S0", local, code + "lend 0; " + END);
                look(live[i] ? "6 " + at : "DONE", "S0", local, code + "lend! 0; " + END);
            }
        }
        // One that is no more is not live.
        for (String gone : new String[] {"lend! 0; pop; ", "lend! 0; store 1; move 1; pop; ", "lend! 0; field! 0 0; read; pop; "}) {
            for (String op : new String[] {"copy 0; ", "move 0; ", "lend 0; ", "lend! 0; "}) {
                look("DONE", "S0", "&!S0", gone + op + END);
            }
        }
        // One that another was stored over is not live, either.
        look("DONE", "S0 S0", "&!S0", "lend! 0; store 2; lend! 1; store 2; move 0; " + END);
        look("6 4", "S0 S0", "&!S0", "lend! 0; store 2; lend! 1; store 2; move 1");
        // "if it is no reference": a reference may be moved, copied, stored while others are live.
        look("DONE", "&!S0", "&!S0", "copy 0; copy 0; store 1; copy 1; store 0; move 0; " + END);
    }

    /** "5 ..; 4 ..; 6": the order of faults at 11 to 15. */
    private static void orderAtLocals() {
        look("5 2", "S1", "", "move 0; nothing; copy 0");
        look("4 1", "S1", "", "lend! 0; copy 0");
        look("4 2", "S1 S1", "", "lend 0; move 1; store 0");
        look("3 1", "S1", "", "lend 0; store 0");
        look("1 0", "S1", "", "store 0");
        look("6 1", "S1", "", "lend 0; move 0");
        look("5 2", "&S1", "", "move 0; nothing; lend 0");
        look("5 2", "&S1", "", "move 0; nothing; lend! 0");
        look("3 0", "&S1", "", "lend 0");
        look("3 0", "&!S1", "", "lend! 0");
        // "13 .. 4 when it is there and has no drop": not when it is gone; "it is there then"
        look("DONE", "S1", "S1", "move 0; store 1; move 1; store 0; move 0; " + END);
        look("4 2", "S1 S1", "", "move 0; nothing; store 1");
        look("DONE", "S1 S1", "", "move 1; move 0; store 1; move 1; " + END);
        look("DONE", "S0 S0", "", "move 0; store 1; copy 1; " + END);
        look("5 2", "S0 S0", "", "move 0; store 1; copy 0");
    }

    /** "(A reference keeps its origins and whether it is inside.)": by 11, 12 and 13. */
    private static void keeping() {
        // Local 1 is inside and has local 0's origin; it comes into local 2 as it was.
        String inside = "copy 0; call 7; store 1; ";
        for (String op : new String[] {"copy 1; store 2; move 1; pop; ", "move 1; store 2; nothing; nothing; "}) {
            look("6 9", "&!long", "&!long &!long", inside + op + "long 5; copy 0; write");
            look("DONE", "&!long", "&!long &!long", inside + op + "long 5; move 2; write; " + END);
            look("DONE", "&!long", "&!long &!long", inside + op + "move 2; pop; long 5; copy 0; write; " + END);
        }
        // One that is not inside stays so.
        String whole = "copy 0; nothing; store 1; ";
        for (String op : new String[] {"copy 1; store 2; move 1; pop; ", "move 1; store 2; nothing; nothing; "}) {
            look("DONE", "&!long", "&!long &!long", whole + op + "long 5; copy 0; write; " + END);
        }
        // Its origins: the local that it came from may not go.
        look("6 5", "long", "&long &long", "lend 0; store 1; copy 1; store 2; nothing; move 0");
        look("6 5", "long", "&long &long", "lend 0; store 1; move 1; store 2; nothing; move 0");
        look("DONE", "long", "&long &long", "lend 0; store 1; move 1; store 2; move 2; pop; move 0; " + END);
        // A value that was stored over one that is inside is what it is itself.
        look("DONE", "&!long", "&!long", inside + "copy 0; store 1; long 5; copy 0; write; " + END);
    }

    /** Another reference to the longs that local 0 may write, each with its type. */
    private static final String[] OTHERS = {"copy 0", "copy 0; freeze", "copy 0; long 0; element! 0", "copy 0; long 0; element 0",
        "copy 1", "copy 1; freeze", "copy 1; long 0; element! 0"};
    private static final String[] OTHER_TYPES = {"&!*long", "&*long", "&!long", "&long", "&!*long", "&*long", "&!long"};
    private static final boolean[] SOLE = {true, false, false, false, true, true, true};

    /** "A writing reference is SOLE when each other live one that meets it writes, and is not inside." */
    private static void sole() {
        String[] asking = {"vector 0 0; copy 0; write; ", "copy 0; long 1; push 0; ", "copy 0; last 0; pop; ",
            "copy 0; long 0; long 0; swap 0; ", "copy 0; call 1; "};
        int[] at = {2, 2, 1, 3, 1};
        String[] free = {"copy 0; length 0; pop; ", "copy 0; long 0; element 0; pop; ", "copy 0; long 0; element! 0; pop; ",
            "copy 0; read; pop; ", "copy 0; freeze; pop; "};
        for (int i = 0; i < OTHERS.length; i++) {
            for (String other : new String[] {OTHERS[i] + "; ", OTHERS[i] + "; store 2; "}) {
                int before = count(other);
                for (int k = 0; k < asking.length; k++) {
                    look(SOLE[i] ? "DONE" : "6 " + (before + at[k]), "&!*long &!*long", OTHER_TYPES[i], other + asking[k] + END);
                }
                for (String code : free) {
                    look("DONE", "&!*long &!*long", OTHER_TYPES[i], other + code + END);
                }
            }
        }
        // The one that is taken does not count against itself, be it inside or not.
        look("DONE", "S0", "", "long 5; lend! 0; field! 0 0; write; ret");
        look("DONE", "S0", "", "lend! 0; field! 0 1; long 5; push 0; ret");
        // Two that are inside are not sole beside one another, though they are two fields.
        look("6 5", "&!S0", "", "copy 0; field! 0 0; long 5; copy 0; field! 0 0; write");
        look("6 4", "&!S0", "", "copy 0; field! 0 0; copy 0; field! 0 1; last 0");
        // "4 without drop; 6 when it is not sole"
        look("4 4", "&!S1 S1", "", "copy 0; freeze; move 1; copy 0; write");
    }

    /** Each local counts: the first and the last hold the other reference. */
    private static void soleOfLocals() {
        for (int k : new int[] {0, 1, 31, 39}) {
            String[] locals = new String[40];
            java.util.Arrays.fill(locals, "long");
            locals[k] = "&long";
            locals[20] = "&!long";
            String taken = String.join(" ", java.util.Arrays.copyOf(locals, 8));
            String further = String.join(" ", java.util.Arrays.copyOfRange(locals, 8, 40));
            String lend = "long 1; store 10; lend! 10; store 20; copy 20; freeze; store " + k + "; ";
            look("6 9", taken, further, lend + "long 5; copy 20; write; " + END);
            look("DONE", taken, further, lend + "move " + k + "; pop; long 5; copy 20; write; " + END);
        }
    }

    /** "23 .. 6 when a writing one of these is not sole (each other one of these counts as inside for that)" */
    private static void soleOfCalls() {
        look("6 2", "&!long", "", "copy 0; copy 0; call 4");
        look("DONE", "&!long &!long", "", "copy 0; copy 1; call 4; ret");
        look("6 3", "&!long", "", "copy 0; copy 0; freeze; call 5");
        look("DONE", "&!long &!long", "", "copy 0; copy 1; freeze; call 5; ret");
        look("DONE", "&!long", "", "copy 0; freeze; copy 0; freeze; call 6; ret");
        // Beside these, others that are live count as what they are.
        look("DONE", "&!long &!long", "&!long", "copy 0; store 2; copy 0; copy 1; call 4; ret");
        look("6 5", "&!long &!long", "&long", "copy 0; freeze; store 2; copy 0; copy 1; call 4");
        look("6 5", "&!long &!long", "&long", "copy 1; freeze; store 2; copy 0; copy 1; call 4");
        look("6 4", "&!long &!long", "", "copy 1; freeze; copy 0; copy 1; call 4");
        look("DONE", "&!long &!long", "", "copy 1; freeze; copy 0; call 7; " + END);
        // "15 when that has RESOURCES and this has not": before 6.
        look("15 1", 0, "&long", "", "", "copy 0; call 3");
        look("15 0", 3, "", "", "", "call 2");
        look("DONE", 4, "", "", "", "call 2; ret");
        // "It puts what that gives: references are inside, with the origins of all references taken (for a writing one: of the writing ones)"
        look("6 3", "long long", "", "lend 0; lend! 1; call 9; move 0");
        look("6 3", "long long", "", "lend 0; lend! 1; call 9; copy 1");
        look("DONE", "long long", "", "lend 0; lend! 1; call 9; copy 0; " + END);
        look("DONE", "long long", "", "lend 0; lend! 1; call 9; pop; copy 1; " + END);
        look("6 4", "long long", "", "lend 0; lend! 1; call 9; pop; move 1");
        look("6 5", "long long", "&!long", "lend 0; lend! 1; call 9; store 2; pop; move 1");
        look("DONE", "long long", "&!long", "lend 0; lend! 1; call 9; store 2; pop; move 0; " + END);
        look("6 5", "&!long", "&!long", "copy 0; call 7; store 1; long 5; copy 0; write");
        // Out of nothing, it has no origins.
        look("DONE", "long", "", "call 8; move 0; " + END);
        look("DONE", 0, "", "&long", "", "call 8; ret");
    }

    /** "20 .. one that does not write, else the same": it is inside if the other was. */
    private static void insideOfFreeze() {
        // Local 1 is not inside at instruction 3, so it may not come back as one that is.
        String head = "copy 0; freeze; store 1; move 1; pop; ";
        look("DONE", "&!long", "&long", head + "copy 0; freeze; store 1; go 3");
        look("9 9", "&!long", "&long", head + "copy 0; call 7; freeze; store 1; go 3");
        String within = "copy 0; call 7; freeze; store 1; move 1; pop; ";
        look("DONE", "&!long", "&long", within + "copy 0; freeze; store 1; go 4");
        look("DONE", "&!long", "&long", within + "copy 0; call 7; freeze; store 1; go 4");
    }

    /** "16, 17 .. with the same origins, inside"; "54 .., 55 ..: the same origins, inside"; "50 .. not inside" */
    private static void insideOfParts() {
        // Structures 0 and 15 have one origin, and 0 has parts of 15: so a part may come to where a whole one was.
        String whole = "sender; borrow 15; store 0; move 0; pop; sender; ";
        String[] parts = {"borrow 15; ", "borrow! 15; freeze; ", "borrow 0; field 0 0; ", "borrow! 0; field! 0 0; freeze; ",
            "borrow 0; field 0 1; long 0; element 0; ", "borrow! 0; field! 0 1; long 0; element! 0; freeze; "};
        for (int i = 0; i < parts.length; i++) {
            Assembly module = new Assembly(7).structure(15, "S15 *S15");
            for (int s = 1; s <= 15; s++) {
                module.structure(15, "long");
            }
            String code = whole + parts[i] + "store 0; go 3";
            module.element("S15").function(4, "", "", "&S15", code);
            Check.due(code, new Bench().publish(module), i < 2 ? "DONE" : "FAULTY 39 " + (count(code) - 1));
        }
    }

    /** "6 when it has RESOURCES and a live one, or one of these, has an origin above 47" */
    private static void callsWithResources() {
        look("6 2", "", "", "sender; borrow 0; call 2");
        look("6 2", "", "", "sender; borrow! 1; call 2");
        look("6 3", "", "&S0", "sender; borrow 0; store 0; call 2");
        look("6 3", "", "", "sender; borrow 0; field 0 0; call 3");
        look("DONE", "", "", "sender; borrow 0; pop; call 2; ret");
        look("DONE", "", "&S0", "sender; borrow 0; store 0; move 0; pop; call 2; ret");
        look("DONE", "", "", "sender; borrow! 0; field! 0 0; call 7; " + END);
        // One that is gone has none, wherever it stands.
        look("DONE", "long ".repeat(8), "&long ".repeat(32), "call 2; lend 0; call 3; " + END);
        // Origins below 48 are fine: also the last of what was taken, and the last local.
        look("DONE", "long ".repeat(7) + "&long", "", "copy 7; call 3; copy 7; call 2; " + END);
        look("DONE", "long ".repeat(8), "long ".repeat(32), "long 1; store 39; lend 39; call 2; lend 39; call 3; " + END);
    }

    /** "48: 6 when a live one has its resources' origin; 50: when a live writing one has; 51: when any live one has" */
    private static void resourcesLive() {
        String[] lent = {"", "borrow 0", "borrow! 0", "borrow! 0; freeze", "borrow 0; field 0 0", "borrow! 0; field! 0 0",
            "borrow 1", "borrow! 1"};
        String[] types = {"", "&S0", "&!S0", "&S0", "&long", "&!long", "&S1", "&!S1"};
        boolean[] live = {false, true, true, true, true, true, false, false};
        boolean[] writes = {false, false, true, false, false, true, false, false};
        for (int i = 0; i < lent.length; i++) {
            String before = lent[i].isEmpty() ? "" : "sender; " + lent[i] + "; ";
            String store = lent[i].isEmpty() ? "" : before + "store 0; ";
            String local = types[i].isEmpty() ? "long" : types[i];
            for (String code : new String[] {before, store}) {
                int at = count(code) + 1;
                look(live[i] ? "6 " + at : "DONE", "", local, code + "sender; take 0; " + END);
                look("DONE", "", local, code + "sender; has 0; " + END);
                look(writes[i] ? "6 " + at : "DONE", "", local, code + "sender; borrow 0; " + END);
                look(live[i] ? "6 " + at : "DONE", "", local, code + "sender; borrow! 0; " + END);
                look("DONE", "", local, code + "long 1; vector 0 0; pack 0; put 0; " + END);
            }
        }
        // "all: 15 when this has no RESOURCES, 4 when a has no key"; then 6.
        for (String op : new String[] {"take", "has", "borrow", "borrow!"}) {
            look("3 1", 3, "", "", "", "long 1; " + op + " 2");
            look("15 1", 3, "", "", "", "sender; " + op + " 2");
            look("4 1", 4, "", "", "", "sender; " + op + " 2");
        }
        look("3 1", 3, "S0", "", "", "move 0; put 2");
        look("15 1", 3, "S2", "", "", "move 0; put 2");
        look("4 1", 4, "S2", "", "", "move 0; put 2");
        Assembly same = new Assembly(7).structure(15, "long");
        for (int s = 1; s <= 15; s++) {
            same.structure(7, "long");
        }
        Check.due("4 before 6", new Bench().publish(same.function(4, "", "", "", "sender; borrow! 0; sender; borrow! 15")), "FAULTY 34 3");
    }

    /** "1 RETURN: 12 when the stack is not just what the function gives ..; 14 ..; 13 .." */
    private static void returning() {
        look("DONE", 0, "", "", "", "ret");
        look("12 1", 0, "", "", "", "yes; ret");
        look("12 0", 0, "", "truth", "", "ret");
        look("12 1", 0, "", "truth truth", "", "yes; ret");
        look("12 3", 0, "", "truth truth", "", "yes; yes; yes; ret");
        look("DONE", 0, "", "truth long", "", "yes; long 1; ret");
        look("12 2", 0, "", "long truth", "", "yes; long 1; ret");
        look("12 1", 0, "&!long", "&long", "", "move 0; ret");
        String all = "yes; ".repeat(8);
        look("DONE", 0, "", "truth ".repeat(8), "", all + "ret");
        look("12 8", 0, "", "truth ".repeat(7) + "long", "", all + "ret");
        look("12 8", 0, "", "long " + "truth ".repeat(7), "", all + "ret");
        // 12 before 14 before 13, when all of them are so.
        look("12 1", 0, "S2", "&long", "", "lend 0; ret");
        look("14 1", 0, "S2", "&S2", "", "lend 0; ret");
        look("13 1", 0, "S2 &S2", "&S2", "", "move 1; ret");
        look("DONE", 0, "S2 &S2", "S2 &S2", "", "move 0; move 1; ret");
        // Each of those that are given counts, the lowest and the topmost.
        look("14 2", 0, "long &long", "&long &long", "", "lend 0; move 1; ret");
        look("14 2", 0, "long &long", "&long &long", "", "move 1; lend 0; ret");
        // "13 when a local that is there has no drop": the first, the last, one that was stored.
        look("13 0", 0, "S2 long", "", "", "ret");
        look("13 0", 0, "long ".repeat(7) + "S2", "", "", "ret");
        look("13 2", 0, "S2", "", "long ".repeat(31) + "S2", "move 0; store 32; ret");
        look("DONE", 0, "S2", "S2", "S2", "move 0; ret");
        // "45 ABORT": whatever else is on the stack or in locals.
        look("DONE", 0, "S2 S2", "truth", "", "move 0; yes; long 1; abort");
    }

    /** "2 BRANCH to a, 3 when a truth (taken) is so, 4 when not: 8 when the stack is not empty then." */
    private static void branching() {
        look("DONE", "", "", "go 1; ret");
        look("8 1", "", "", "yes; go 2; ret");
        for (String op : new String[] {"goif ", "goifnot "}) {
            look("DONE", "", "", "yes; " + op + "2; ret");
            look("8 2", "", "", "yes; yes; " + op + "3; pop; ret");
            look("3 2", "", "", "yes; long 1; " + op + "3; pop; ret");
            look("1 0", "", "", op + "1; ret");
            // "11 when there is none": and "for 3, 4 looked at before the next one" 9 by its branch.
            look("11 1", "", "", "yes; " + op + "0");
            look("9 4", "S2", "", "move 0; unpack 2; pop; yes; " + op + "0");
            look("11 5", "S0", "", "copy 0; unpack 0; pop; pop; yes; " + op + "0");
        }
        // "8 when it is where some branch leads, and the stack is not empty": before what the operation asks.
        look("8 1", "", "", "yes; pop; go 1");
        look("8 1", "S2", "", "move 0; pop; go 1");
        look("8 3", "truth", "", "move 0; goif 3; yes; pop; ret");
        look("11 0", "", "", "nothing");
        look("11 2", "", "", "yes; goif 2; nothing");
        look("11 1", "", "", "long 1; pop");
    }

    /** "with any further one a local that is gone in one is gone (9 when it has no drop, and is there in the other)" */
    private static void comingOnceMore() {
        String pack = "long 1; pack 2; store 1; ";
        String gone = "move 1; unpack 2; pop; ";
        // Without drop: there, then gone; gone, then there; both there; both gone.
        look("9 4", "truth S2", "", "copy 0; goif 5; " + gone + "long 0; abort");
        look("9 4", "truth", "S2", "copy 0; goif 5; " + pack + "long 0; abort");
        look("DONE", "truth S2", "", "copy 0; goif 3; nothing; move 1; " + END);
        look("5 3", "truth", "S2", "copy 0; goif 3; nothing; move 1");
        // By a branch: the fault is at the branch that comes second.
        look("9 6", "truth S2", "", "copy 0; goif 7; " + gone + "yes; goif 7; ret");
        look("9 5", "truth S2", "", "copy 0; goif 6; " + gone + "go 6; ret");
        // With drop it is gone then, whichever came first.
        look("5 4", "truth long", "", "copy 0; goif 4; move 1; pop; copy 1");
        look("5 4", "truth", "long", "copy 0; goif 4; long 1; store 1; copy 1");
        look("DONE", "truth long", "", "copy 0; goif 4; long 1; store 1; copy 1; " + END);
        // A third one that has it there does not bring it back.
        look("5 8", "truth long", "", "copy 0; goif 8; copy 0; goif 8; move 1; pop; copy 0; goif 8; copy 1");
        look("5 8", "truth long", "", "copy 0; goif 8; move 1; pop; copy 0; goif 8; long 1; store 1; copy 1");
        // By both ways of one branch.
        look("DONE", "truth S2", "", "copy 0; goif 2; move 1; " + END);
    }

    /** "references have the origins of both, and are inside if they are in one" */
    private static void comingWithReferences() {
        String two = "lend! 1; store 3; copy 0; goif 8; move 3; pop; lend! 2; store 3; ";
        look("6 8", "truth long long", "&!long", two + "copy 1");
        look("6 8", "truth long long", "&!long", two + "copy 2");
        look("DONE", "truth long long", "&!long", two + "move 3; pop; move 1; move 2; " + END);
        // Gone in one, it is gone, and has no origins.
        look("DONE", "truth long", "&!long", "lend! 1; store 2; copy 0; goif 6; move 2; pop; move 1; " + END);
        look("5 6", "truth long", "&!long", "lend! 1; store 2; copy 0; goif 6; move 2; pop; copy 2");
        // Inside in the first, or in the second.
        String first = "copy 1; call 7; store 2; copy 0; goif 7; copy 1; store 2; ";
        String second = "copy 1; store 2; copy 0; goif 7; copy 1; call 7; store 2; ";
        String neither = "copy 1; store 2; copy 0; goif 7; copy 1; nothing; store 2; ";
        String ask = "long 5; copy 1; write; " + END;
        look("6 9", "truth &!long", "&!long", first + ask);
        look("6 9", "truth &!long", "&!long", second + ask);
        look("DONE", "truth &!long", "&!long", neither + ask);
        // The first local, too; and one that is gone has no origin, not even that of the first local.
        String zero = "long 1; store 1; long 1; store 2; lend! 1; store 0; yes; goif 12; move 0; pop; lend! 2; store 0; ";
        look("6 12", "", "&!long long long", zero + "copy 1");
        look("6 12", "", "&!long long long", zero + "copy 2");
        look("DONE", "long", "&!long", "lend! 0; store 1; yes; goif 6; move 1; pop; move 0; " + END);
        look("DONE", "long", "&!long", "yes; goif 4; lend! 0; store 1; move 0; " + END);
        // It may be made whole again behind that.
        look("DONE", "truth &!long", "&!long", first + "copy 1; store 2; " + ask);
    }

    /** "To j not above i: 9 unless each local that is there for j is there .. and each one that is gone for j is gone, or has drop." */
    private static void comingBack() {
        look("DONE", "long", "", "nothing; go 0");
        look("DONE", "long", "", "go 0");
        look("9 2", "long", "", "move 0; pop; go 0");
        look("DONE", "long", "", "move 0; pop; nothing; go 2");
        look("DONE", "", "long", "long 1; store 0; go 0");
        look("9 3", "", "S2", "long 1; pack 2; store 0; go 0");
        look("DONE", "", "S2", "long 1; pack 2; store 0; nothing; go 3");
        look("DONE", "S2", "", "move 0; unpack 2; pack 2; store 0; go 0");
        look("9 3", "S2", "", "move 0; unpack 2; pop; go 0");
        for (String op : new String[] {"goif ", "goifnot "}) {
            look("9 3", "long", "", "move 0; pop; yes; " + op + "0; ret");
            look("DONE", "long", "", "yes; " + op + "0; ret");
            look("9 4", "S2", "", "move 0; unpack 2; pop; yes; " + op + "0; ret");
        }
        // What counts is what there was when it was looked at: local 1 is gone at 4 by one of the ways.
        look("DONE", "truth long", "", "copy 0; goif 4; move 1; pop; nothing; go 4");
        look("9 8", "truth long", "", "copy 0; goif 4; nothing; nothing; nothing; nothing; move 1; pop; go 4");
    }

    /** ".. with origins among its, and inside only if it is so for j" */
    private static void comingBackWithReferences() {
        look("DONE", "&!long &!long", "", "copy 0; store 0; go 0");
        look("9 2", "&!long &!long", "", "copy 1; store 0; go 0");
        String both = "truth &!long &!long";
        // At 6 local 3 has the origins of both: either may come back, and both.
        String join = "copy 1; store 3; copy 0; goif 6; copy 2; store 3; ";
        look("DONE", both, "&!long", join + "copy 1; store 3; go 6");
        look("DONE", both, "&!long", join + "copy 2; store 3; go 6");
        look("DONE", both, "&!long", join + "go 6");
        look("9 9", both + " &!long", "&!long", join.replace("store 3", "store 4") + "copy 3; store 4; nothing; go 6");
        // Inside for j: it may come so, or not.
        look("DONE", "&!long", "&!long", "copy 0; call 7; store 1; move 1; call 7; store 1; go 3");
        look("DONE", "&!long", "&!long", "copy 0; call 7; store 1; copy 0; store 1; go 3");
        look("9 5", "&!long", "&!long", "copy 0; store 1; copy 0; call 7; store 1; go 2");
        // What is no reference has no origins: it may come from anywhere.
        look("DONE", "long long", "long", "copy 0; store 2; copy 1; store 2; copy 0; store 1; go 2");
        // Gone for j: a reference has drop, so it may come with any origins, also inside.
        look("DONE", "&!long", "&!long", "nothing; copy 0; call 7; store 1; go 0");
        // The last local counts as the first.
        String eight = "&!long ".repeat(8);
        String further = "truth ".repeat(31) + "&!long";
        look("9 4", eight, further, "copy 0; store 39; copy 1; store 39; go 2");
        look("DONE", eight, further, "copy 0; store 39; copy 0; store 39; go 2");
    }

    /** "10 when no state has come to it from before it" */
    private static void notComeTo() {
        look("10 1", "", "", "ret; ret");
        look("10 1", "", "", "go 2; ret; ret");
        look("10 2", "", "", "long 1; abort; nothing; ret");
        look("10 1", "", "", "ret; go 1");
        look("10 1", "", "", "go 2; nothing; go 1");
        look("DONE", "", "", "yes; goif 3; ret; go 2");
        // Before all that the operation asks, and before the faults of those behind it.
        look("10 1", "", "", "ret; pop");
        look("10 1", "S2", "", "go 0; pop; copy 0");
        // An instruction that only itself and those behind it lead to.
        look("10 1", "", "", "ret; nothing; go 1");
        look("DONE", "", "", "go 0");
    }

    /** "(place: 1024 times the function's number, and the instruction's)" */
    private static void places() {
        Assembly module = new Assembly(7);
        for (int f = 0; f < 63; f++) {
            module.function(0, "", "", "", "ret");
        }
        Check.due("the last place", new Bench().publish(module.function(0, "", "", "", "nothing; ".repeat(1023) + "pop")), "FAULTY 31 65535");
        Check.due("11 at the 1024th", new Bench().publish(new Assembly(7).function(0, "", "", "", "nothing; ".repeat(1024).trim())),
            "FAULTY 41 1023");
        Check.due("a branch to the 1024th", new Bench().publish(new Assembly(7)
            .function(0, "", "", "", "yes; goif 1023; " + "nothing; ".repeat(1021) + "ret")), "DONE");
        Check.due("with a stack there", new Bench().publish(new Assembly(7)
            .function(0, "", "", "", "yes; goif 1023; " + "nothing; ".repeat(1020) + "yes; ret")), "FAULTY 38 1023");
        laterFunctions();
        // Functions in their order, the first fault of the first one that has any.
        Check.due("the second function", new Bench().publish(new Assembly(7).function(0, "", "", "", "ret")
            .function(0, "", "", "", "ret; ret").function(0, "", "", "", "pop")), "FAULTY 40 1025");
    }

    /** Each function is looked at for itself, also behind one that was FAULTY. */
    private static void laterFunctions() {
        String sole = "copy 0; store 1; long 5; copy 0; write; ret";
        String loop = "go 2; nothing; go 1";
        // The first one leaves local 1 inside, and has been come to at 2 by a branch.
        String first = "copy 0; goif 3; nothing; copy 1; call 0; store 2; ret";
        Check.due("inside in another function", new Bench().publish(new Assembly(7)
            .function(0, "&!long", "&!long", "", "move 0; ret").function(0, "&!long", "", "&!long", "copy 0; call 0; store 1; ret")
            .function(0, "&!long", "", "&!long", sole)), "DONE");
        Check.due("inside in another function, as taken", new Bench().publish(new Assembly(7)
            .function(0, "&!long", "&!long", "", "move 0; ret").function(0, "&!long", "", "", "copy 0; call 0; store 0; ret")
            .function(0, "&!long", "", "", "long 5; copy 0; write; ret")), "DONE");
        Check.due("come to in another function", new Bench().publish(new Assembly(7)
            .function(0, "&!long", "&!long", "", "move 0; ret").function(0, "truth &!long", "", "&!long", first)
            .function(0, "", "", "", "go 1; go 2; ret").function(0, "", "", "", loop)), "FAULTY 40 3073");
        Check.due("gone in another function", new Bench().publish(new Assembly(7)
            .function(0, "truth long", "", "", "copy 0; goif 4; move 1; pop; nothing; ret")
            .function(0, "truth long", "", "", "copy 0; goif 4; nothing; nothing; copy 1; pop; ret")), "DONE");
        Bench bench = new Bench();
        for (String code : new String[] {"yes; yes; not; add", "copy 0", "long 1; ret", loop}) {
            Check.due("FAULTY", bench.publish(new Assembly(7).function(0, "", "", "long", code)).startsWith("FAULTY"), true);
        }
        Check.due("behind those", bench.publish(new Assembly(7).function(0, "", "", "long", "long 1; store 0; yes; goif 4; ret")), "DONE");
        // A structure that contained itself in one that was FAULTY does not in another.
        Check.due("a round", bench.publish(new Assembly(8).structure(0, "S1").structure(0, "S0")), "FAULTY 14 7");
        Check.due("no round", bench.publish(new Assembly(8).structure(0, "S1").structure(0, "long")), "DONE");
    }

    /** Operands are no branches, but those of 2, 3 and 4. */
    private static void otherOperands() {
        // The operand of 5 and the byte behind it would lead to 0, where local 1 is there.
        look("DONE", "truth long", "", "nothing; move 1; pop; byte 0; pop; long 1; store 1; go 0");
        // The two bytes behind a RETURN are 1 and 35: they would lead to 291, where local 1 is there.
        look("DONE", "truth long", "", "copy 0; goif 7; copy 0; goif 8; move 1; pop; ret; ret; nothing; yes; goif 291; "
            + "nothing; ".repeat(280) + "copy 1; pop; ret");
    }
}
