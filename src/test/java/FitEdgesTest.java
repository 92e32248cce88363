/**
 * Part 2 and faults 21 to 25 of part 3, sentence by sentence: abilities, what a structure bears,
 * how a module fits to those that are there. Sentences of the document stand in quotes.
 */
final class FitEdgesTest {
    private static final int COPY = 1;
    private static final int DROP = 2;
    private static final int STORE = 4;
    private static final int KEY = 8;

    private FitEdgesTest() {
    }

    public static void main(String[] args) {
        plainAbilities();
        structureAbilities();
        vectorAbilities();
        referenceAbilities();
        bearing();
        bearingPlaces();
        numbers();
        foreignStructures();
        foreignStructurePlaces();
        foreignFunctions();
        foreignFlags();
        foreignLists();
        sameStructures();
        depths();
        depthsOfEach();
        order();
        Check.end();
    }

    private static void due(String what, Assembly module, String want) {
        Check.due(what, new Bench().publish(module), want);
    }

    /** Whether a function that takes two values of a type and has this code is taken; else the fault and its place. */
    private static void looks(String want, Assembly module, int flags, String type, String code) {
        due(type + " " + code, module.function(flags, type + " " + type, "", type, code), want);
    }

    /** "ABILITIES of a type: 7 for truth, byte, long, wide, address" */
    private static void plainAbilities() {
        for (String type : new String[] {"truth", "byte", "long", "wide", "addr"}) {
            looks("DONE", new Assembly(7), 0, type, "copy 0; store 2; ret");
            looks("DONE", new Assembly(7), 0, type, "copy 0; copy 1; same; pop; ret");
            for (int abilities = 0; abilities < 16; abilities++) {
                due(abilities + " over " + type, new Assembly(7).structure(abilities, type), "DONE");
            }
        }
    }

    /** "a structure's own": what each operation asks of it, for all sets of abilities. */
    private static void structureAbilities() {
        for (int a = 0; a < 16; a++) {
            boolean drop = (a & DROP) != 0;
            boolean copy = (a & COPY) != 0;
            boolean key = (a & KEY) != 0;
            String end = "move 0; unpack 0; pop; ";
            one(a, copy ? "DONE" : "FAULTY 34 0", "copy 0; unpack 0; pop; " + end + "ret");
            one(a, copy ? "DONE" : "FAULTY 34 1", "lend 0; read; unpack 0; pop; " + end + "ret");
            one(a, drop ? "DONE" : "FAULTY 34 1", "move 0; pop; ret");
            one(a, drop ? "DONE" : "FAULTY 43 0", "ret");
            one(a, drop ? "DONE" : "FAULTY 34 2", "long 1; pack 0; store 0; " + end + "ret");
            one(a, drop ? "DONE" : "FAULTY 34 3", "long 1; pack 0; lend! 0; write; " + end + "ret");
            one(a, drop ? "DONE" : "FAULTY 34 3", "long 1; pack 0; move 0; same; pop; ret");
            one(a, drop ? "DONE" : "FAULTY 34 3", "long 1; pack 0; move 0; differ; pop; ret");
            one(a, key ? "DONE" : "FAULTY 34 1", "move 0; put 0; ret");
            one(a, key ? "DONE" : "FAULTY 34 1", "sender; take 0; unpack 0; pop; " + end + "ret");
            one(a, key ? "DONE" : "FAULTY 34 1", "sender; has 0; pop; " + end + "ret");
            one(a, key ? "DONE" : "FAULTY 34 1", "sender; borrow 0; pop; " + end + "ret");
            one(a, key ? "DONE" : "FAULTY 34 1", "sender; borrow! 0; pop; " + end + "ret");
        }
    }

    private static void one(int abilities, String want, String code) {
        due("abilities " + abilities + ": " + code,
            new Assembly(7).structure(abilities, "long").function(4, "S0", "", "", code), want);
    }

    /** "a vector's those of its TYPE but 8" */
    private static void vectorAbilities() {
        for (int a = 0; a < 16; a++) {
            for (String type : new String[] {"*S0", "****S0"}) {
                boolean drop = (a & DROP) != 0;
                boolean both = (a & (COPY | DROP)) == (COPY | DROP);
                String wantCopy = both ? "DONE" : (a & COPY) == 0 ? "FAULTY 34 0" : "FAULTY 34 1";
                due(a + " copy " + type, vector(a).function(0, type, "", "", "copy 0; pop; ret"), wantCopy);
                due(a + " leave " + type, vector(a).function(0, type, "", "", "ret"), drop ? "DONE" : "FAULTY 43 0");
                due(a + " drop " + type, vector(a).function(0, type, "", "", "move 0; pop; ret"), drop ? "DONE" : "FAULTY 34 1");
                // It has store as its TYPE has, so a structure with store may hold it.
                due(a + " store " + type, vector(a).structure(STORE, type), (a & STORE) != 0 ? "DONE" : "FAULTY 24 1");
            }
        }
        // No vector has key: there is nothing but structures that an operation could name.
        due("key in a vector", new Assembly(7).structure(KEY | STORE, "long").structure(KEY, "*S0"), "DONE");
    }

    private static Assembly vector(int abilities) {
        return new Assembly(7).structure(abilities, "long");
    }

    /** "a reference's 3": copy and drop, whatever it points to. */
    private static void referenceAbilities() {
        for (String type : new String[] {"&S0", "&!S0", "&*S0", "&!****S0"}) {
            due("copy and drop " + type, vector(0).function(0, type, "", type, "copy 0; store 1; copy 0; pop; ret"), "DONE");
            due("store over " + type, vector(0).function(0, type + " " + type, "", "", "copy 0; store 1; ret"), "DONE");
        }
    }

    /** "A structure BEARS its abilities when all its fields have copy, drop, store for each .., and store if it has key." */
    private static void bearing() {
        for (int own = 0; own < 16; own++) {
            for (int field = 0; field < 16; field++) {
                int need = own & 7 | ((own & KEY) != 0 ? STORE : 0);
                String want = (field & need) == need ? "DONE" : "FAULTY 24 1";
                due(own + " over " + field, new Assembly(7).structure(field, "long").structure(own, "S0"), want);
                due(own + " over vectors of " + field, new Assembly(7).structure(field, "long").structure(own, "**S0"), want);
            }
            due(own + " over a coin", new Assembly(7).structure(own, "S1").foreignStructure(0, 0, 4),
                (own & 3) == 0 ? "DONE" : "FAULTY 24 0");
        }
    }

    /** "all its fields": also the last of them; "24 a structure of its own .. (place: its number)" */
    private static void bearingPlaces() {
        String many = "long ".repeat(15);
        due("the last of 16", new Assembly(7).structure(3, "long").structure(4, many + "S0"), "FAULTY 24 1");
        due("the first of 16", new Assembly(7).structure(3, "long").structure(4, "S0 " + many), "FAULTY 24 1");
        due("none of 16", new Assembly(7).structure(4, "long").structure(4, many + "S0"), "DONE");
        Assembly last = new Assembly(7).structure(0, "long");
        for (int s = 1; s < 31; s++) {
            last.structure(0, "S0");
        }
        due("the last of 32", last.structure(1, "S0"), "FAULTY 24 31");
        due("the first of two", new Assembly(7).structure(0, "long").structure(1, "S0").structure(2, "S0"), "FAULTY 24 1");
        // It is the structure's own abilities that count, not those of what its fields hold.
        due("within", new Assembly(7).structure(0, "long").structure(0, "S0").structure(7, "long"), "DONE");
    }

    /** "21 its NUMBER is 0, or a module of this number is there (place 4)" */
    private static void numbers() {
        due("number 0", new Assembly(0), "FAULTY 21 4");
        due("number 1", new Assembly(1), "DONE");
        due("number 65535", new Assembly(65535), "DONE");
        due("number 256", new Assembly(256), "DONE");
        Bench bench = new Bench();
        Check.due("first", bench.publish(new Assembly(258)), "DONE");
        Check.due("one more", bench.publish(new Assembly(259)), "DONE");
        Check.due("one less", bench.publish(new Assembly(257)), "DONE");
        Check.due("its lower byte", bench.publish(new Assembly(2)), "DONE");
        for (int number : new int[] {258, 259, 257, 2}) {
            Check.due("again " + number, bench.publish(new Assembly(number)), "FAULTY 21 4");
        }
        // One that was not taken is not there.
        Check.due("faulty", bench.publish(new Assembly(9).function(0, "", "", "", "pop")), "FAULTY 31 0");
        Check.due("then well", bench.publish(new Assembly(9)), "DONE");
    }

    /** Module 5: two structures of its own and the coin; functions 0 public, 1 not, 2 public with RESOURCES. */
    private static Bench withHome() {
        Bench bench = new Bench();
        Check.due("home", bench.publish(new Assembly(5).structure(7, "long").structure(2, "truth").foreignStructure(0, 0, 4)
            .foreignFunction(0, 5, 1, "addr", "long")
            .function(1, "S0 &S2", "S1", "", "long 0; abort")
            .function(0, "", "", "", "ret")
            .function(5, "", "", "", "ret")), "DONE");
        return bench;
    }

    private static void fits(String what, Assembly module, String want) {
        Check.due(what, withHome().publish(module), want);
    }

    /** "22 a foreign structure that is none of a module that is there, as its own one, or has other abilities" */
    private static void foreignStructures() {
        fits("the first", new Assembly(7).foreignStructure(5, 0, 7), "DONE");
        fits("the last of its own", new Assembly(7).foreignStructure(5, 1, 2), "DONE");
        fits("a foreign one there", new Assembly(7).foreignStructure(5, 2, 4), "FAULTY 22 0");
        fits("none there", new Assembly(7).foreignStructure(5, 3, 4), "FAULTY 22 0");
        fits("255", new Assembly(7).foreignStructure(5, 255, 0), "FAULTY 22 0");
        fits("of a module that is not there", new Assembly(7).foreignStructure(4, 0, 7), "FAULTY 22 0");
        fits("of itself", new Assembly(7).structure(7, "long").foreignStructure(7, 0, 7), "FAULTY 22 0");
        fits("the coin", new Assembly(7).foreignStructure(0, 0, 4), "DONE");
        fits("no second one of the coin's", new Assembly(7).foreignStructure(0, 1, 4), "FAULTY 22 0");
        for (int abilities = 0; abilities < 16; abilities++) {
            fits("5.0 with " + abilities, new Assembly(7).foreignStructure(5, 0, abilities), abilities == 7 ? "DONE" : "FAULTY 22 0");
            fits("5.1 with " + abilities, new Assembly(7).foreignStructure(5, 1, abilities), abilities == 2 ? "DONE" : "FAULTY 22 0");
            fits("0.0 with " + abilities, new Assembly(7).foreignStructure(0, 0, abilities), abilities == 4 ? "DONE" : "FAULTY 22 0");
        }
    }

    /** "at the first such one (place: its number among the foreign ones)" */
    private static void foreignStructurePlaces() {
        for (int at = 0; at < 32; at++) {
            Assembly module = new Assembly(7).structure(0, "long").structure(0, "long");
            for (int s = 0; s < 32; s++) {
                module.foreignStructure(0, 0, s < at ? 4 : 5);
            }
            due("the first at " + at, module, "FAULTY 22 " + at);
        }
    }

    /** "23 a foreign function that is none of a module that is there, as its own one, or not public" */
    private static void foreignFunctions() {
        fits("the last one", new Assembly(7).foreignFunction(5, 2, 4, "", ""), "DONE");
        fits("not public", new Assembly(7).foreignFunction(5, 1, 1, "", ""), "FAULTY 23 0");
        fits("a foreign one there", new Assembly(7).foreignFunction(5, 3, 1, "addr", "long"), "FAULTY 23 0");
        fits("none there", new Assembly(7).foreignFunction(5, 4, 1, "", ""), "FAULTY 23 0");
        fits("of a module that is not there", new Assembly(7).foreignFunction(4, 2, 4, "", ""), "FAULTY 23 0");
        fits("of itself", new Assembly(7).foreignFunction(7, 0, 1, "", "").function(1, "", "", "", "ret"), "FAULTY 23 0");
        fits("the coin's last", new Assembly(7).foreignFunction(0, 5, 1, "addr", "long"), "DONE");
        fits("no seventh of the coin's", new Assembly(7).foreignFunction(0, 6, 1, "addr", "long"), "FAULTY 23 0");
        // All of the coin's, as part 5 tells them.
        due("the coin's", new Assembly(7).coin(0), "DONE");
        String[][] coin = {{"long", "S0"}, {"addr S0", ""}, {"&S0", "long"}, {"S0 S0", "S0"}, {"S0 long", "S0 S0"}, {"addr", "long"}};
        for (int f = 0; f < 6; f++) {
            for (int g = 0; g < 6; g++) {
                due("the coin's " + f + " as " + g,
                    new Assembly(7).foreignStructure(0, 0, 4).foreignFunction(0, f, 1, coin[g][0], coin[g][1]),
                    f == g ? "DONE" : "FAULTY 23 0");
            }
            due("the coin's " + f + " with RESOURCES",
                new Assembly(7).foreignStructure(0, 0, 4).foreignFunction(0, f, 5, coin[f][0], coin[f][1]), "FAULTY 23 0");
        }
        // "(place likewise)"
        for (int at = 0; at < 32; at++) {
            Assembly module = new Assembly(7).function(0, "", "", "", "ret").function(0, "", "", "", "ret");
            for (int f = 0; f < 32; f++) {
                module.foreignFunction(0, 5, f < at ? 1 : 5, "addr", "long");
            }
            due("the first at " + at, module, "FAULTY 23 " + at);
        }
    }

    /** "or not public, or whose flag 4 is another one": for all flags there and here. */
    private static void foreignFlags() {
        for (int there = 0; there < 8; there++) {
            for (int here = 0; here < 8; here++) {
                Bench bench = new Bench();
                bench.publish(new Assembly(5).function(there, "", "", "", "ret"));
                boolean fits = (there & 1) != 0 && (there & 4) == (here & 4);
                Check.due("flags " + there + " as " + here, bench.publish(new Assembly(7).foreignFunction(5, 0, here, "", "")),
                    fits ? "DONE" : "FAULTY 23 0");
            }
        }
    }

    /** "or whose lists are not THE SAME" */
    private static void foreignLists() {
        String[][] lists = {{"", ""}, {"long", ""}, {"", "long"}, {"long long", ""}, {"long byte", ""}, {"byte long", ""},
            {"&long", ""}, {"&!long", ""}, {"*long", ""}, {"**long", ""}, {"&*long", ""}, {"long", "long"}, {"long", "byte"},
            {"long long long long long long long long", ""}, {"long long long long long long long byte", ""}};
        for (String[] there : lists) {
            for (String[] here : lists) {
                Bench bench = new Bench();
                bench.publish(new Assembly(5).function(1, there[0], there[1], "", "long 0; abort"));
                Assembly module = new Assembly(7).foreignFunction(5, 0, 1, here[0], here[1]);
                Check.due(String.join(" -> ", there) + " as " + String.join(" -> ", here), bench.publish(module),
                    there == here ? "DONE" : "FAULTY 23 0");
            }
        }
    }

    /** "Types of two modules are THE SAME when they are so with structures told by what they are." */
    private static void sameStructures() {
        // Of module 5: its own 0, then 3.1 as number 1, the coin as number 2. Of module 7: its own 0
        // and 1, then 5.0, 3.0, 3.1, the coin as numbers 2, 3, 4, 5.
        for (int first = 0; first < 6; first++) {
            for (int second = 0; second < 6; second++) {
                for (int third = 0; third < 6; third++) {
                    Bench fresh = new Bench();
                    fresh.publish(new Assembly(3).structure(7, "long").structure(7, "long"));
                    fresh.publish(new Assembly(5).structure(7, "long").foreignStructure(3, 1, 7).foreignStructure(0, 0, 4)
                        .function(1, "S0 *S1", "&S2", "", "long 0; abort"));
                    Assembly module = new Assembly(7).structure(7, "long").structure(7, "long").foreignStructure(5, 0, 7)
                        .foreignStructure(3, 0, 7).foreignStructure(3, 1, 7).foreignStructure(0, 0, 4)
                        .foreignFunction(5, 0, 1, "S" + first + " *S" + second, "&S" + third);
                    boolean same = first == 2 && second == 4 && third == 5;
                    Check.due(first + " " + second + " " + third, fresh.publish(module), same ? "DONE" : "FAULTY 23 0");
                }
            }
        }
    }

    private static Assembly chain(int count, String first) {
        Assembly module = new Assembly(7).structure(4, first);
        for (int s = 1; s < count; s++) {
            module.structure(4, "S" + (s - 1));
        }
        return module;
    }

    /** "25 one whose DEPTH is above 24 (likewise; .. a vector's one more than its TYPE's, a structure's one more ..)" */
    private static void depths() {
        due("24", chain(23, "long"), "DONE");
        due("25", chain(24, "long"), "FAULTY 25 23");
        due("25 is the first such one", chain(30, "long"), "FAULTY 25 23");
        for (int vectors = 1; vectors <= 4; vectors++) {
            String type = "*".repeat(vectors) + "byte";
            due("24 with " + type, chain(23 - vectors, type), "DONE");
            due("25 with " + type, chain(24 - vectors, type), "FAULTY 25 " + (23 - vectors));
            String top = "*".repeat(vectors) + "S";
            due("24 below vectors", chain(22 - vectors, "long").structure(4, top + (21 - vectors)), "DONE");
            due("25 below vectors", chain(23 - vectors, "long").structure(4, top + (22 - vectors)), "FAULTY 25 " + (23 - vectors));
        }
        // "the greatest of its fields'": first, last or between.
        due("the first field", chain(23, "long").structure(4, "S22 long byte"), "FAULTY 25 23");
        due("the last field", chain(23, "long").structure(4, "long byte S22"), "FAULTY 25 23");
        due("a field between", chain(23, "long").structure(4, "long S22 byte"), "FAULTY 25 23");
        due("fields less deep", chain(23, "long").structure(4, "long S21 **byte"), "DONE");
        // "a foreign one's what it is there"
        Bench bench = new Bench();
        Check.due("home", bench.publish(chain(23, "long")), "DONE");
        Check.due("23 and 1", bench.publish(new Assembly(8).structure(4, "S1").foreignStructure(7, 21, 4)), "DONE");
        Check.due("24 and 1", bench.publish(new Assembly(9).structure(4, "S1").foreignStructure(7, 22, 4)), "FAULTY 25 0");
        Check.due("by two modules", bench.publish(new Assembly(9).structure(4, "S1").foreignStructure(8, 0, 4)), "FAULTY 25 0");
        Check.due("one that is not held", bench.publish(new Assembly(9).structure(4, "long").foreignStructure(8, 0, 4)), "DONE");
    }

    /** "a number's, truth's, address's is 1" */
    private static void depthsOfEach() {
        for (String type : new String[] {"truth", "byte", "long", "wide", "addr"}) {
            due("24 by " + type, chain(23, type), "DONE");
            due("25 by " + type, chain(24, type), "FAULTY 25 23");
        }
        // Structures may stand in any order: here each one holds the next.
        Assembly backwards = new Assembly(7);
        Assembly deeper = new Assembly(7);
        for (int s = 0; s < 24; s++) {
            if (s < 23) {
                backwards.structure(4, s < 22 ? "S" + (s + 1) : "long");
            }
            deeper.structure(4, s < 23 ? "S" + (s + 1) : "long");
        }
        due("24 backwards", backwards, "DONE");
        due("25 backwards", deeper, "FAULTY 25 0");
    }

    /** "in this order: faults 1 .. 14 of part 1; 21 ..; 22 ..; 23 ..; 24 ..; 25 ..; then its functions" */
    private static void order() {
        Bench bench = new Bench();
        bench.publish(new Assembly(7));
        Check.due("13 before 21", bench.publish(new Assembly(7).function(0, "", "", "", "go 1")), "FAULTY 13 18");
        Check.due("21 before 22", bench.publish(all(7, true, true, true, true)), "FAULTY 21 4");
        Check.due("22 before 23", bench.publish(all(8, true, true, true, true)), "FAULTY 22 0");
        Check.due("23 before 24", bench.publish(all(8, false, true, true, true)), "FAULTY 23 0");
        Check.due("24 before 25", bench.publish(all(8, false, false, true, true)), "FAULTY 24 24");
        Check.due("25 before functions", bench.publish(all(8, false, false, false, true)), "FAULTY 25 22");
        Check.due("functions", bench.publish(all(8, false, false, false, false)), "FAULTY 31 0");
    }

    private static Assembly all(int number, boolean structure, boolean function, boolean weak, boolean deep) {
        Assembly module = new Assembly(number).structure(4, deep ? "*long" : "long");
        module.structure(4, "S0");
        for (int s = 2; s < 23; s++) {
            module.structure(4, "S" + (s - 1));
        }
        module.structure(4, deep ? "S22" : "long").structure(weak ? 1 : 0, "S25").foreignStructure(0, 0, structure ? 5 : 4);
        return module.foreignFunction(0, 5, function ? 5 : 1, "addr", "long").function(0, "", "", "", "pop");
    }
}
