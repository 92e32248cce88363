import java.util.Random;
import java.util.TreeMap;

/**
 * Promise 20: "How many times, since the beginning, something was done that looking should have ruled out
 * (an operand that lacks, a reference to what is gone, a value left behind, a wrong type)". Looking rules
 * all of it out, so the class is compiled here once more without looking: then slips are counted, and no
 * call fails all the same.
 */
public final class SlipsTest {
    private static final String LOOK = "fault = looker.look(draft);";

    private final boolean looking;

    private SlipsTest(boolean looking) {
        this.looking = looking;
    }

    public static void main(String[] args) throws Exception {
        boolean looking = args.length == 0;
        new SlipsTest(looking).runAll();
        if (looking) {
            Check.end();
            Altered.run("SlipsTest", "without looking", text -> Altered.replaceOnce(text, LOOK, "fault = 0;"));
            return;
        }
        sizesWithoutEnd();
        for (int seed = 0; seed < 1500; seed++) {
            anyCode(new Random(seed));
        }
        Check.end();
    }

    private void runAll() {
        lacking();
        gone();
        leftBehind();
        wrongTypes();
        wrongReferences();
        wrongCoins();
        sound();
    }

    private void lacking() {
        slip(1, "an operand", "", "", "pop; ret");
        slip(1, "one of two numbers", "", "", "long 1; add; ret");
        slip(1, "an address", "", "", "has 1; pop; ret");
        slip(1, "one of two fields", "", "", "long 1; pack 1; pop; ret");
        slip(1, "one of two elements", "", "", "byte 1; vector 0 2; pop; ret");
        slip(1, "what a function takes", "", "", "call 1; ret");
        slip(1, "more instructions", "", "", "nothing");
        slip(1, "room on the stack", "", "", "long 1; ".repeat(65) + "pop; ".repeat(64) + "ret");
        slip(1, "room for fields", "", "S1", "long 1; long 1; pack 1; store 0; " + "byte 1; ".repeat(63)
            + "move 0; unpack 1; " + "pop; ".repeat(63) + "ret");
    }

    private void gone() {
        slip(1, "a local", "", "long", "move 0; store 0; ret");
        slip(2, "what a reference points to", "", "long", "lend 0; read; pop; ret");
        slip(2, "what is written to", "", "long", "long 1; lend! 0; write; ret");
    }

    private void leftBehind() {
        slip(1, "on the stack", "", "", "long 1; ret");
        slip(1, "not given", "long", "", "ret");
        slip(1, "in a local", "", "S0", "long 1; pack 0; store 0; ret");
        slip(1, "in two locals", "", "S0 long S0", "long 1; pack 0; store 0; long 1; pack 0; store 2; ret");
    }

    private void wrongTypes() {
        slip(1, "for a code", "", "", "yes; abort");
        slip(1, "for a branch", "", "", "long 1; goif 2; ret");
        slip(1, "for a branch when not", "", "", "long 1; goifnot 2; ret");
        slip(1, "for not", "", "", "long 1; not; pop; ret");
        slip(1, "for a sum", "", "", "long 1; byte 1; add; pop; ret");
        slip(1, "for a sum of addresses", "", "", "sender; sender; add; ret");
        slip(1, "for a sum of structures", "", "", "long 1; pack 0; long 1; pack 0; add; ret");
        slip(1, "to shift by", "", "", "long 1; long 1; up; pop; ret");
        slip(1, "to compare", "", "", "long 1; byte 1; same; pop; ret");
        slip(1, "for an address", "", "", "long 1; has 1; pop; ret");
        slip(1, "for a resource", "", "", "long 1; put 1; ret");
        slip(1, "to unpack", "", "", "long 1; unpack 0; ret");
        slip(1, "to unpack, of another structure", "", "", "long 1; pack 0; unpack 1; ret");
        slip(1, "for a digest", "", "", "long -1; digest; ret");
        slip(1, "for a digest, with an upper half", "", "", "wide 5 -5; digest; ret");
    }

    private void wrongReferences() {
        String one = "wide 5 -5; store 0; lend! 0; ";
        slip(1, "none to read", "", "", "long 1; read; pop; ret");
        slip(1, "a wide's field", "", "wide", one + "field! 0 0; pop; ret");
        slip(1, "a field that is none", "", "S0", "long 1; pack 0; store 0; lend 0; field 1 1; pop; move 0; unpack 0; pop; ret");
        slip(1, "a wide's length", "", "wide", one + "length 0; pop; ret");
        slip(1, "a wide's element", "", "wide", one + "long 3; element 0; pop; ret");
        slip(1, "a wide's elements", "", "wide", one + "long 3; long 4; swap 0; ret");
        slip(1, "a wide's last element", "", "wide", one + "last 0; pop; ret");
        slip(1, "more behind a wide", "", "wide", one + "byte 1; push 0; ret");
        String row = "byte 1; byte 2; vector 0 2; store 0; lend! 0; ";
        slip(1, "a byte as a number of an element", "", "*byte", row + "byte 1; element 0; pop; ret");
        slip(1, "a byte as the first of two", "", "*byte", row + "byte 0; long 1; swap 0; ret");
        slip(1, "a byte as the second of two", "", "*byte", row + "long 0; byte 1; swap 0; ret");
        slip(1, "nothing to push", "", "*byte", row + "push 0; ret");
    }

    private void wrongCoins() {
        slip(1, "of a byte", "", "", "sender; byte 0; call 2; call 3; ret");
        slip(1, "none for an account", "", "", "sender; long 0; call 3; ret");
        slip(1, "for no address", "", "", "long 1; long 0; call 2; call 3; ret");
        slip(1, "a number for the first of two", "", "", "sender; long 0; long 0; call 2; call 5; call 3; ret");
        slip(1, "a number for the second of two", "", "", "sender; long 0; call 2; long 0; call 5; call 3; ret");
        slip(1, "a byte to be split off", "", "S2", "sender; sender; long 0; call 2; byte 0; call 6; store 0; call 3; move 0; call 3; ret");
        slip(1, "a number to be split", "", "S2", "sender; sender; long 0; long 0; call 6; store 0; call 3; move 0; call 3; ret");
        slip(1, "the balance of a number", "", "", "long 1; call 7; pop; ret");
    }

    private static Assembly module(String gives, String locals, String code) {
        return new Assembly(7).structure(0, "long").structure(15, "long long").coin(2).element("byte").element("*S1")
            .function(6, "", gives, locals, code).function(4, "long", "", "", "ret");
    }

    /** With looking it is faulty and nothing slips; without, so much does. */
    private void slip(int times, String what, String gives, String locals, String code) {
        Bench bench = new Bench();
        String published = bench.publish(module(gives, locals, code));
        Check.due(what + ": is published", published.startsWith(looking ? "FAULTY" : "DONE"), true);
        String told = bench.run(7, 0);
        Check.due(what + ": slips, " + told, bench.ledger.slips(), looking ? 0 : times);
    }

    private static void sound() {
        Bench bench = new Bench();
        Check.due("sound", bench.publish(module("long", "S0", "long 1; pack 0; store 0; move 0; unpack 0; ret")), "DONE");
        Check.due("sound", bench.run(7, 0), "DONE gas 6 1");
        Check.due("sound code does not slip", bench.ledger.slips(), 0);
    }

    /** A vector of one thing twice, of which each is one of one thing twice, and so on: nobody waits for its size. */
    private static void sizesWithoutEnd() {
        // What is written shares its elements with what it was moved from, so the last one can be had twice.
        String twice = "vector 1 0; store 1; move 0; vector 1 1; store 2; lend! 2; store 3; move 2; lend! 1; write; "
            + "move 3; last 1; store 4; lend! 1; move 4; push 1; move 1; store 0; ";
        Bench bench = new Bench();
        Assembly module = module("", "*S1 *S1 *S1 &!*S1 *S1", "vector 1 0; store 0; " + twice.repeat(35) + "copy 0; ret");
        Check.due("published", bench.publish(module), "DONE");
        Check.due("ended", bench.run(7, 0), "ERROR 5 gas 20000");
    }

    /** Modules by chance with much spoiled in them: no call fails, and all end. */
    private static void anyCode(Random random) {
        Bench bench = new Bench();
        TreeMap<Integer, ModelModule> there = new TreeMap<>();
        there.put(0, ModelModule.coin());
        for (int number = 7; number < 11; number++) {
            ModelMaker maker = new ModelMaker(random, there);
            maker.make(number);
            byte[] bytes = maker.spoil(random.nextInt(12));
            if (bytes.length > 2048 || !bench.publish(bytes).equals("DONE")) {
                continue;
            }
            ModelModule m = new ModelModule(bytes);
            m.read();
            m.fit(there);
            there.put(m.number, m);
            for (ModelModule.Function f : m.functions.subList(0, m.ownFunctions)) {
                bench.ledger.begin();
                bench.ledger.call(1, bench.ledger.account(1, 1), 400, m.number, f.number);
                f.takes.forEach(t -> bench.ledger.argument(t.get(0), 0, 1));
                Check.due("executed", bench.ledger.execute() >= 0, true);
            }
        }
        bench.ledger.root(0);
        bench.ledger.coins(3);
    }
}
