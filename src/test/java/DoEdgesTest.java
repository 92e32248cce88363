/**
 * Part 4 beside numbers and gas: vectors, values that are alike, frames, the places that a call
 * asks for, sizes of resources. Sentences of the document stand in quotes.
 */
final class DoEdgesTest {
    private static final String[] NO_INDEX = {"4294967296", "4294967297", "9223372036854775807", "9223372036854775808",
        "18446744073709551615"};

    private DoEdgesTest() {
    }

    public static void main(String[] args) {
        elements();
        lasts();
        swaps();
        pushes();
        madeVectors();
        alike();
        swapsOfOthers();
        digests();
        manyLocals();
        unpackingAbove();
        writing();
        senders();
        frames();
        framesOfOthers();
        placesOfOneFunction();
        placesOfCalls();
        placesThatAreNotNew();
        placesBeforeErrors();
        sizes();
        sizesOfCoins();
        sizesAtTheEnd();
        Check.end();
    }

    private static final String FILL = "vector 0 0; store 3; long 0; store 4; copy 4; copy 0; below; goifnot 16; lend! 3; copy 4; push 0; "
        + "copy 4; long 1; add; store 4; go 4; ";

    /** Functions that fill a vector with 0, 1, .. (so many: the first argument), then do something with two longs. */
    private static Bench vectors() {
        Bench bench = new Bench();
        String takes = "long long long";
        Check.due("vectors", bench.publish(new Assembly(7).element("long")
            .function(2, takes, "long", "*long long", FILL + "lend 3; move 1; element 0; read; ret")
            .function(2, takes, "long", "*long long", FILL + "copy 2; lend! 3; copy 1; element! 0; write; lend 3; move 1; element 0; read; ret")
            .function(2, takes, "long long", "*long long", FILL + "lend! 3; last 0; lend 3; length 0; ret")
            .function(2, takes, "long long", "*long long",
                FILL + "lend! 3; copy 1; copy 2; swap 0; lend 3; move 1; element 0; read; lend 3; move 2; element 0; read; ret")
            .function(2, takes, "long", "*long long", FILL + "lend! 3; last 0; pop; lend! 3; long 7; push 0; lend 3; length 0; ret")
            .function(2, takes, "long", "*long long", FILL + "lend 3; length 0; ret")), "DONE");
        return bench;
    }

    /** What came of it, without the gas. */
    private static String brief(String told) {
        return told.replaceAll(" gas \\d+", "");
    }

    private static String does(Bench bench, int function, String... longs) {
        return brief(bench.run(7, function, "long:" + longs[0], "long:" + longs[1], "long:" + longs[2]));
    }

    /** "54 55 the element (the first is 0): ERROR 2 when there is none such" */
    private static void elements() {
        for (int n : new int[] {0, 1, 2, 64, 255, 256}) {
            Bench bench = vectors();
            String count = String.valueOf(n);
            for (int f = 0; f < 2; f++) {
                if (n > 0) {
                    Check.due("the first of " + n, does(bench, f, count, "0", "0"), "DONE 0");
                    Check.due("the last of " + n, does(bench, f, count, String.valueOf(n - 1), String.valueOf(n - 1)), "DONE " + (n - 1));
                }
                Check.due("behind the last of " + n, does(bench, f, count, count, "0"), "ERROR 2");
                for (String far : NO_INDEX) {
                    Check.due("far behind the last of " + n, does(bench, f, count, far, "0"), "ERROR 2");
                }
            }
            if (n > 0) {
                Check.due("another one is written", does(bench, 1, count, "0", "77"), "DONE 77");
            }
        }
    }

    /** "57 the last one goes from there: ERROR 2 when there is none" */
    private static void lasts() {
        Bench bench = vectors();
        Check.due("of none", does(bench, 2, "0", "0", "0"), "ERROR 2");
        Check.due("of one", does(bench, 2, "1", "0", "0"), "DONE 0 0");
        Check.due("of two", does(bench, 2, "2", "0", "0"), "DONE 1 1");
        Check.due("of 256", does(bench, 2, "256", "0", "0"), "DONE 255 255");
    }

    /** "58 two elements change places: ERROR 2 likewise" */
    private static void swaps() {
        for (int n : new int[] {0, 1, 3}) {
            Bench bench = vectors();
            for (int i = 0; i <= n; i++) {
                for (int j = 0; j <= n; j++) {
                    String want = i < n && j < n ? "DONE " + j + " " + i : "ERROR 2";
                    Check.due("swap " + i + " and " + j + " of " + n,
                        does(bench, 3, String.valueOf(n), String.valueOf(i), String.valueOf(j)), want);
                }
            }
        }
        Bench bench = vectors();
        for (String far : NO_INDEX) {
            Check.due("swap the first with none", does(bench, 3, "3", "0", far), "ERROR 2");
            Check.due("swap none with the first", does(bench, 3, "3", far, "0"), "ERROR 2");
        }
    }

    /** "56 it comes behind the others: ERROR 4 when there are 256" */
    private static void pushes() {
        Bench bench = vectors();
        Check.due("255", does(bench, 5, "255", "0", "0"), "DONE 255");
        Check.due("256", does(bench, 5, "256", "0", "0"), "DONE 256");
        Check.due("257", does(bench, 5, "257", "0", "0"), "ERROR 4");
        Check.due("one less, and one more", does(bench, 4, "256", "0", "0"), "DONE 256");
        Check.due("length 0", does(bench, 5, "0", "0", "0"), "DONE 0");
    }

    /** "52 the first one taken is the last element": with none, one and 64 of them. */
    private static void madeVectors() {
        Bench bench = new Bench();
        StringBuilder many = new StringBuilder();
        for (int i = 0; i < 64; i++) {
            many.append("byte ").append(i).append("; ");
        }
        bench.publish(new Assembly(7).element("byte")
            .function(2, "long", "byte", "*byte", many + "vector 0 64; store 1; lend 1; move 0; element 0; read; ret")
            .function(2, "", "long", "*byte", "vector 0 0; store 0; lend 0; length 0; ret")
            .function(2, "", "long byte", "*byte", "byte 9; vector 0 1; store 0; lend 0; length 0; lend! 0; last 0; ret"));
        for (int i = 0; i < 64; i += 21) {
            Check.due("element " + i, brief(bench.run(7, 0, "long:" + i)), "DONE " + i);
        }
        Check.due("no 65th", brief(bench.run(7, 0, "long:64")), "ERROR 2");
        Check.due("none", brief(bench.run(7, 1)), "DONE 0");
        Check.due("one", brief(bench.run(7, 2)), "DONE 1 9");
    }

    /** "36 37 whether two values are alike, or not": each part of them counts. */
    private static void alike() {
        String[] values = {"long 1; byte 1; vector 0 1; pack 0; ", "long 2; byte 1; vector 0 1; pack 0; ", "long 1; byte 2; vector 0 1; pack 0; ",
            "long 1; vector 0 0; pack 0; ", "long 1; byte 1; byte 1; vector 0 2; pack 0; ", "long 1; byte 1; byte 2; vector 0 2; pack 0; ",
            "long 1; byte 2; byte 1; vector 0 2; pack 0; ", "long 4294967297; byte 1; vector 0 1; pack 0; "};
        for (int i = 0; i < values.length; i++) {
            for (int j = 0; j < values.length; j++) {
                Bench bench = new Bench();
                bench.publish(new Assembly(7).structure(15, "long *byte").element("byte")
                    .function(2, "", "truth truth", "truth",
                        values[i] + values[j] + "same; store 0; " + values[i] + values[j] + "differ; move 0; ret"));
                Check.due(values[i] + "and " + values[j], brief(bench.run(7, 0)), i == j ? "DONE 0 1" : "DONE 1 0");
            }
        }
        // Wides differ by either half.
        String[] wides = {"wide 1 2; ", "wide 1 3; ", "wide 2 2; ", "wide 0 2; "};
        for (int i = 0; i < wides.length; i++) {
            for (int j = 0; j < wides.length; j++) {
                Bench bench = new Bench();
                bench.publish(new Assembly(7).function(2, "", "truth", "", wides[i] + wides[j] + "same; ret"));
                Check.due(wides[i] + "and " + wides[j], brief(bench.run(7, 0)), "DONE " + (i == j ? 1 : 0));
            }
        }
    }

    /** "58 two elements change places": whatever they are. */
    private static void swapsOfOthers() {
        String[][] rows = {{"wide", "wide 1 2; ", "wide 3 4; "}, {"*wide", "wide 1 2; vector 1 1; ", "wide 5 6; wide 3 4; vector 1 2; "},
            {"S0", "wide 1 2; pack 0; ", "wide 3 4; pack 0; "}, {"*wide", "vector 1 0; ", "wide 3 4; vector 1 1; "}};
        for (String[] row : rows) {
            Bench bench = new Bench();
            String two = row[1] + row[2] + "vector 0 2; ";
            Check.due("module", bench.publish(new Assembly(7).structure(7, "wide").element(row[0]).element("wide")
                .function(2, "", "truth truth", "*" + row[0], two + "store 0; lend! 0; long 0; long 1; swap 0; copy 0; "
                    + row[2] + row[1] + "vector 0 2; same; move 0; " + two + "same; ret")), "DONE");
            Check.due("swap " + row[0], brief(bench.run(7, 0)), "DONE 1 0");
        }
    }

    /** "59 the DIGEST of its bytes as 32 bytes": all of them. */
    private static void digests() {
        Bench bench = new Bench();
        byte[] due = new RootModel().digest(new byte[20]);
        bench.publish(new Assembly(7).element("byte")
            .function(2, "long", "byte long", "*byte", "byte 0; ".repeat(20) + "vector 0 20; digest; store 1; lend 1; move 0; element 0; read; "
                + "lend 1; length 0; ret"));
        for (int i = 0; i < 32; i++) {
            Check.due("byte " + i, brief(bench.run(7, 0, "long:" + i)), "DONE " + (due[i] & 255) + " 32");
        }
        Check.due("no byte 32", brief(bench.run(7, 0, "long:32")), "ERROR 2");
    }

    /** "A CALL of a function is a FRAME: its locals, a stack, the next instruction": 40 locals, each its own, in each frame. */
    private static void manyLocals() {
        StringBuilder set = new StringBuilder();
        StringBuilder sum = new StringBuilder("long 0; ");
        for (int k = 8; k < 40; k++) {
            set.append("long ").append(k * k).append("; store ").append(k).append("; ");
        }
        for (int k = 0; k < 40; k++) {
            sum.append("long 2; mul; copy ").append(k).append("; add; ");
        }
        Bench bench = new Bench();
        String eight = "long long long long long long long long";
        Check.due("locals", bench.publish(new Assembly(7)
            .function(2, eight, "long long", "long ".repeat(32), set + "copy 7; copy 6; copy 5; copy 4; copy 3; copy 2; copy 1; copy 0; call 1; "
                + sum + "ret")
            .function(0, eight, "long", "long ".repeat(32), set.toString().replace("long ", "long 1") + sum + "ret")), "DONE");
        long first = 0;
        long second = 0;
        for (int k = 0; k < 40; k++) {
            first = 2 * first + (k < 8 ? k : k * k);
            second = 2 * second + (k < 8 ? 7 - k : Long.parseLong("1" + k * k));
        }
        Check.due("in both frames", brief(bench.run(7, 0, "long:0", "long:1", "long:2", "long:3", "long:4", "long:5", "long:6", "long:7")),
            "DONE " + second + " " + first);
    }

    /** What lies below on the stack stays where it is. */
    private static void unpackingAbove() {
        Bench bench = new Bench();
        bench.publish(new Assembly(7).structure(7, "long long long").element("long")
            .function(2, "", "byte byte long long long", "", "byte 1; byte 2; long 3; long 4; long 5; pack 0; unpack 0; ret")
            .function(2, "", "byte byte long long long", "", "byte 1; byte 2; call 2; ret")
            .function(0, "", "long long long", "", "long 3; long 4; long 5; pack 0; unpack 0; ret"));
        Check.due("below it", brief(bench.run(7, 0)), "DONE 1 2 3 4 5");
        Check.due("below a call", brief(bench.run(7, 1)), "DONE 1 2 3 4 5");
    }

    /** "19 what it points to becomes the value": a copy goes its own way, also deep inside. */
    private static void writing() {
        Bench bench = new Bench();
        String make = "long 1; byte 1; byte 2; vector 0 2; pack 0; store 0; copy 0; store 1; ";
        String told = "lend 0; field 0 0; read; lend 0; field 0 1; long 1; element 0; read; lend 1; field 0 0; read; "
            + "lend 1; field 0 1; long 1; element 0; read; ret";
        String gives = "long byte long byte";
        Check.due("writing", bench.publish(new Assembly(7).structure(15, "long *byte").element("byte")
            .function(2, "", gives, "S0 S0", make + "long 9; lend! 0; field! 0 0; write; " + told)
            .function(2, "", gives, "S0 S0", make + "byte 9; lend! 0; field! 0 1; long 1; element! 0; write; " + told)
            .function(2, "", gives, "S0 S0", make + "byte 7; byte 8; byte 9; vector 0 3; lend! 0; field! 0 1; write; " + told)
            .function(2, "", gives, "S0 S0", make + "long 5; byte 6; byte 7; vector 0 2; pack 0; lend! 0; write; " + told)
            .function(2, "", gives, "S0 S0", make + "lend! 0; field! 0 1; long 0; long 1; swap 0; " + told)
            .function(2, "", gives, "S0 S0", make + "lend 1; read; lend! 0; write; byte 3; lend! 1; field! 0 1; long 1; element! 0; write; "
                + told)), "DONE");
        String[] due = {"9 2 1 2", "1 9 1 2", "1 8 1 2", "5 7 1 2", "1 1 1 2", "1 2 1 3"};
        for (int f = 0; f < due.length; f++) {
            Check.due("writing " + f, brief(bench.run(7, f)), "DONE " + due[f]);
        }
    }

    /** "46 the SENDER's address": in each frame; "47 the structure becomes the sender's RESOURCE" */
    private static void senders() {
        Bench bench = new Bench();
        bench.publish(new Assembly(5).structure(15, "long").function(1, "", "addr", "", "sender; ret")
            .function(5, "long", "", "", "move 0; pack 0; put 0; ret"));
        bench.publish(new Assembly(7).foreignFunction(5, 0, 1, "", "addr").foreignFunction(5, 1, 5, "long", "")
            .function(2, "", "addr addr addr", "", "sender; call 1; call 3; ret")
            .function(0, "", "addr", "", "sender; ret")
            .function(6, "long", "", "", "move 0; call 4; ret"));
        Check.due("sender 1", brief(bench.run(7, 0)), "DONE 1 1 1");
        Check.due("sender 2", brief(bench.run(2, 100, 7, 0)), "DONE 2 2 2");
        Check.due("put for 2", brief(bench.run(2, 100, 7, 2, "long:5")), "DONE");
        // It is the resource of the module whose code put it, and the sender's.
        Check.due("of 2 by 5", bench.ledger.resource(2, 5, 0), 8);
        Check.due("not of 1", bench.ledger.resource(1, 5, 0), ResourceLedger.NO);
        Check.due("not by 7", bench.ledger.resource(2, 7, 0), ResourceLedger.NO);
        bench.ledger.mint(-1, 1000);
        Check.due("sender -1", brief(bench.run(-1, 100, 7, 0)), "DONE 18446744073709551615 18446744073709551615 18446744073709551615");
    }

    /** Goes so many calls deep (the argument), then does something. */
    private static final String DEEPER = "copy 0; long 0; same; goifnot 6; call 1; ret; move 0; long 1; sub; call 0; ret";

    /** "ERROR 4: a call that would make a 33rd frame (before its gas)" */
    private static void frames() {
        Bench bench = new Bench();
        Check.due("frames", bench.publish(new Assembly(7).foreignFunction(0, 5, 1, "addr", "long")
            .function(2, "long", "", "", DEEPER).function(0, "", "", "", "ret")
            .function(2, "long", "", "", DEEPER.replace("call 1", "call 3").replace("call 0", "call 2")).function(0, "", "", "", "sender; call 4; pop; ret")),
            "DONE");
        // With n the frames are n + 1, and one more at the end.
        Check.due("2 frames", brief(bench.run(7, 0, "long:0")), "DONE");
        // A round costs 16, and 1 when it returns; the last one 8 before its call's 5.
        Check.due("32 frames", bench.run(7, 0, "long:30"), "DONE gas " + (30 * 17 + 8 + 5 + 2));
        Check.due("33 frames", bench.run(7, 0, "long:31"), "ERROR 4 gas " + (31 * 16 + 8));
        Check.due("far too many", brief(bench.run(7, 0, "long:1000")), "ERROR 4");
        // A call of the coin's functions makes no frame.
        Check.due("the coin's in the 32nd", brief(bench.run(7, 2, "long:30")), "DONE");
        Check.due("the coin's in a 33rd", brief(bench.run(7, 2, "long:31")), "ERROR 4");
    }

    /** Frames of other modules' functions count, too. */
    private static void framesOfOthers() {
        Bench bench = new Bench();
        bench.publish(new Assembly(5).function(1, "", "", "", "ret"));
        bench.publish(new Assembly(7).foreignFunction(5, 0, 1, "", "")
            .function(2, "long", "", "", DEEPER.replace("call 1", "call 2")).function(0, "", "", "", "ret"));
        Check.due("another one's as the 32nd", brief(bench.run(7, 0, "long:30")), "DONE");
        Check.due("another one's as a 33rd", brief(bench.run(7, 0, "long:31")), "ERROR 4");
        // Frames that have ended do not count.
        Bench many = new Bench();
        many.publish(new Assembly(7).function(2, "", "", "", "call 1; ".repeat(50) + "ret").function(0, "", "", "", "ret"));
        Check.due("fifty one after the other", brief(many.run(7, 0)), "DONE");
    }

    /**
     * Module 7: functions 0 and 1 ask for 21 and 22 places beside the sender's account and the
     * module; pairs behind them do that and then ask for one more, twice: the first by 0, so that
     * it is the 24th, the second by 1, so that it is a 25th. In their code coin0 to coin5 and other
     * stand for the numbers of the coin's functions and of module 5's.
     */
    private static Bench asking(String... asks) {
        Bench bench = new Bench();
        Check.due("module 5", bench.publish(new Assembly(5).function(1, "", "", "", "ret")), "DONE");
        StringBuilder many = new StringBuilder();
        for (int i = 0; i < 21; i++) {
            many.append("addr ").append(100 + i).append("; has 0; pop; ");
        }
        Assembly module = new Assembly(7).structure(15, "long").structure(15, "long").coin(2).foreignFunction(5, 0, 1, "", "")
            .function(6, "", "", "", many + "ret")
            .function(6, "", "", "", "call 0; addr 121; has 0; pop; ret");
        int own = 2 + 2 * asks.length;
        for (String ask : asks) {
            String code = ask.replace("other", String.valueOf(own + 6));
            for (int f = 0; f < 6; f++) {
                code = code.replace("coin" + f, String.valueOf(own + f));
            }
            module.function(6, "", "", "", "call 0; " + code + "ret").function(6, "", "", "", "call 1; " + code + "ret");
        }
        Check.due("module 7", bench.publish(module), "DONE");
        return bench;
    }

    /** "its sender's account and its module are the first two": in a function that calls no other. */
    private static void placesOfOneFunction() {
        StringBuilder many = new StringBuilder();
        for (int i = 0; i < 22; i++) {
            many.append("addr ").append(100 + i).append("; has 0; pop; ");
        }
        Bench bench = new Bench();
        bench.publish(new Assembly(7).structure(15, "long").foreignFunction(0, 5, 1, "addr", "long")
            .function(6, "", "", "", many + "ret")
            .function(6, "", "", "", many + "addr 122; has 0; pop; ret")
            .function(6, "", "", "", many + "addr 122; call 4; pop; ret")
            .function(6, "", "", "", many + "sender; call 4; pop; ret"));
        Check.due("22 and 2", bench.run(7, 0), "DONE gas " + (22 * 13 + 1));
        Check.due("23 and 2", bench.run(7, 1), "ERROR 4 gas " + (22 * 13 + 2));
        Check.due("an account besides", bench.run(7, 2), "ERROR 4 gas " + (22 * 13 + 2));
        Check.due("the sender's account", brief(bench.run(7, 3)).startsWith("DONE"), true);
    }

    /** "a CALL that asks for more than 24 different PLACES ..: at the 25th, behind the instruction's 1 and before its other gas" */
    private static void placesOfCalls() {
        Bench bench = asking("addr 200; has 0; pop; addr 200; has 0; pop; ", "addr 200; call coin5; pop; addr 200; call coin5; pop; ",
            "addr 200; long 0; call coin0; call coin1; addr 200; long 0; call coin0; call coin1; ", "call other; call other; ");
        Check.due("21 and 2", bench.run(7, 0), "DONE gas 274");
        Check.due("22 and 2", bench.run(7, 1), "DONE gas 294");
        int[] before = {2, 2, 1 + 1 + 6 + 1, 1};
        for (int k = 0; k < 4; k++) {
            Check.due("the 24th, by " + k, brief(bench.run(7, 2 + 2 * k)), "DONE");
            Check.due("a 25th, by " + k, bench.run(7, 3 + 2 * k), "ERROR 4 gas " + (6 + 294 + before[k]));
        }
        Bench others = asking("long 1; pack 0; put 0; ", "sender; take 1; pop; ", "sender; borrow 1; pop; ", "sender; borrow! 1; pop; ");
        Check.due("put as the 24th", brief(others.run(7, 2)), "DONE");
        Check.due("put as a 25th", others.run(2, 1000, 7, 3), "ERROR 4 gas " + (6 + 294 + 3));
        for (int k = 1; k < 4; k++) {
            // There is none: ERROR 3 when it is the 24th place, ERROR 4 before that when it is a 25th.
            Check.due("none as the 24th, by " + k, others.run(7, 2 + 2 * k), "ERROR 3 gas " + (6 + 274 + 2));
            Check.due("none as a 25th, by " + k, others.run(7, 3 + 2 * k), "ERROR 4 gas " + (6 + 294 + 2));
        }
    }

    /** "(.. its sender's account and its module are the first two; .. but module 0)": those are no new ones. */
    private static void placesThatAreNotNew() {
        // Function 1 is at 24 places: none of these is a 25th.
        Bench bench = asking("sender; call coin5; pop; sender; long 5; call coin0; call coin1; ", "call 1; ",
            "addr 121; has 0; pop; addr 100; has 0; pop; ", "sender; long 0; call coin0; long 0; call coin4; call coin3; call coin1; ");
        for (int k = 0; k < 4; k++) {
            Check.due("no new one, by " + k, brief(bench.run(7, 3 + 2 * k)), "DONE");
        }
        // Another structure's resource of the same address is another place; so is another address.
        Bench others = asking("addr 121; has 1; pop; ", "addr 122; has 0; pop; ", "addr 121; call coin5; pop; ", "call other; ");
        for (int k = 0; k < 4; k++) {
            Check.due("another one, by " + k, brief(others.run(7, 3 + 2 * k)), "ERROR 4");
        }
    }

    /** "at the 25th, behind the instruction's 1": with no gas left it is ERROR 5 before that, with just the 1 it is ERROR 4. */
    private static void placesBeforeErrors() {
        Bench bench = asking("addr 200; has 0; pop; ");
        int all = 6 + 294 + 2;
        Check.due("no gas for its 1", bench.run(1, all - 1, 7, 3), "ERROR 5 gas " + (all - 1));
        Check.due("just its 1", bench.run(1, all, 7, 3), "ERROR 4 gas " + all);
        // All is undone, and nothing is kept of what was asked for.
        Check.due("no accounts came", bench.ledger.places(3), 2);
    }

    /** A resource of a vector of so many longs has two more as its SIZE. */
    private static Bench sizing() {
        Bench bench = new Bench();
        bench.publish(new Assembly(7).structure(15, "*long").structure(15, "*long").element("long")
            .function(6, "long", "", "*long", "vector 0 0; store 1; copy 0; long 0; above; goifnot 14; lend! 1; long 5; push 0; move 0; long 1; "
                + "sub; store 0; go 2; move 1; pack 0; put 0; ret")
            .function(6, "", "", "", "sender; borrow! 0; field! 0 0; long 5; push 0; ret")
            .function(6, "", "", "", "sender; borrow! 0; field! 0 0; last 0; pop; ret")
            .function(6, "", "", "&!S0", "sender; borrow! 0; store 0; copy 0; field! 0 0; long 5; push 0; move 0; field! 0 0; last 0; pop; ret")
            .function(6, "", "", "", "sender; take 0; pop; ret")
            .function(6, "", "", "", "sender; take 0; unpack 0; pack 1; put 1; ret"));
        return bench;
    }

    /** "a resource whose SIZE is above 64 at the transaction's end" */
    private static void sizes() {
        for (int n : new int[] {0, 1, 61, 62}) {
            Bench bench = sizing();
            Check.due("size " + (n + 2), brief(bench.run(7, 0, "long:" + n)), "DONE");
            Check.due("its bytes", bench.ledger.resource(1, 7, 0), 2 + 8 * n);
        }
        for (int n : new int[] {63, 64, 200}) {
            Bench bench = sizing();
            Check.due("size " + (n + 2), brief(bench.run(7, 0, "long:" + n)), "ERROR 4");
            Check.due("none is there", bench.ledger.resource(1, 7, 0), ResourceLedger.NO);
        }
        // "gas as used": all of it was done, and paid for.
        Bench bench = sizing();
        bench.run(7, 0, "long:62");
        int used = bench.ledger.told(0, 1);
        Bench other = sizing();
        other.run(7, 0, "long:63");
        Check.due("gas of one too great", other.ledger.told(0, 1), used + 13 + 1);
    }

    /** A coin within a resource has SIZE 2. */
    private static void sizesOfCoins() {
        Bench bench = new Bench();
        bench.publish(new Assembly(7).structure(12, "*S2").structure(12, "long *S2").coin(2).element("S2")
            .function(6, "", "", "", "long 1; call 2; ".repeat(31) + "vector 0 31; pack 0; put 0; ret")
            .function(6, "", "", "", "long 7; " + "long 1; call 2; ".repeat(31) + "vector 0 31; pack 1; put 1; ret"));
        Check.due("64 with 31 coins", brief(bench.run(7, 0)), "DONE");
        Check.due("its bytes", bench.ledger.resource(1, 7, 0), 2 + 8 * 31);
        Check.due("65 with 31 coins", brief(bench.run(7, 1)), "ERROR 4");
        Check.due("in resources", bench.ledger.coins(3), 31);
    }

    /** "at the transaction's end": in between it may be greater. */
    private static void sizesAtTheEnd() {
        Bench bench = sizing();
        bench.run(7, 0, "long:62");
        Check.due("65 at its end", brief(bench.run(7, 1)), "ERROR 4");
        Check.due("it is as it was", bench.ledger.resource(1, 7, 0), 2 + 8 * 62);
        Check.due("65 for a while", brief(bench.run(7, 3)), "DONE");
        Check.due("one less", brief(bench.run(7, 2)), "DONE");
        Check.due("64 again", brief(bench.run(7, 1)), "DONE");
        Check.due("65 again", brief(bench.run(7, 1)), "ERROR 4");
        Check.due("to another structure", brief(bench.run(7, 5)), "DONE");
        Check.due("there", bench.ledger.resource(1, 7, 1), 2 + 8 * 62);
        Check.due("not here", bench.ledger.resource(1, 7, 0), ResourceLedger.NO);
        Check.due("one resource", bench.ledger.places(2), 1);
    }
}
