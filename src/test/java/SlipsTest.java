import java.util.Random;
import java.util.TreeMap;

/**
 * Promise 20: "How many times, since the beginning, something was done that looking should have ruled out
 * (an operand that lacks, a reference to what is gone, a value left behind, a wrong type)". Looking rules
 * all of it out, so the class is compiled here once more without looking: then slips are counted, and no
 * call fails all the same.
 */
public final class SlipsTest {
    private static final String LOOK = "fault = looker.look(draft);";

    private SlipsTest() {
    }

    public static void main(String[] args) throws Exception {
        boolean looking = args.length == 0;
        slip(looking, "an operand that lacks", "", "", "pop; ret");
        slip(looking, "an operand that lacks for two", "", "", "long 1; add; pop; ret");
        slip(looking, "operands that lack for a structure", "", "S0", "pack 1; pop; ret");
        slip(looking, "what lacks for a call", "", "", "call 1; ret");
        slip(looking, "a local that is gone", "", "long", "move 0; pop; ret");
        slip(looking, "a reference to what is gone", "", "long", "lend 0; read; pop; ret");
        slip(looking, "a value left behind on the stack", "", "", "long 1; ret");
        slip(looking, "a value that is not given", "long", "", "ret");
        slip(looking, "a value left behind in a local", "", "S0", "long 1; pack 0; store 0; ret");
        slip(looking, "a wrong type that ends it", "", "", "yes; abort");
        slip(looking, "a wrong type for a branch", "", "", "long 1; goif 2; ret");
        slip(looking, "a wrong type for a number", "", "", "long 1; yes; add; pop; ret");
        slip(looking, "structures for numbers", "", "", "long 1; pack 0; long 1; pack 0; add; pop; ret");
        slip(looking, "a wrong type for an address", "", "", "long 1; has 1; pop; ret");
        slip(looking, "a wrong type to unpack", "", "", "long 1; unpack 0; pop; ret");
        slip(looking, "a wrong type for a reference", "", "", "long 1; read; pop; ret");
        slip(looking, "a number's field", "", "long", "long 1; store 0; lend 0; field 0 0; read; pop; ret");
        slip(looking, "a number's elements", "", "long", "long 1; store 0; lend 0; length 0; pop; ret");
        slip(looking, "a number's digest", "", "", "long -1; digest; pop; ret");
        slip(looking, "a wide's digest", "", "", "wide 5 -5; digest; pop; ret");
        slip(looking, "a wide's elements", "", "wide", "wide 5 -5; store 0; lend! 0; long 3; element 0; read; pop; ret");
        slip(looking, "a wide's last element", "", "wide", "wide 5 -5; store 0; lend! 0; last 0; pop; ret");
        slip(looking, "more behind a wide", "", "wide", "wide 5 -5; store 0; lend! 0; byte 1; push 0; ret");
        slip(looking, "behind the last instruction", "", "", "nothing");
        sound();
        if (looking) {
            Check.end();
            Altered.run("SlipsTest", "without looking", text -> Altered.replaceOnce(text, LOOK, "fault = 0;"));
            return;
        }
        sizesWithoutEnd();
        for (int seed = 0; seed < 1500; seed++) {
            anyCode(new Random(seed));
        }
        Check.end();
    }

    private static Assembly module(String gives, String locals, String code) {
        return new Assembly(7).structure(0, "long").structure(15, "long long").element("byte").element("*S1")
            .function(6, "", gives, locals, code).function(4, "long", "", "", "ret");
    }

    /** With looking it is faulty and nothing slips; without, something does. */
    private static void slip(boolean looking, String what, String gives, String locals, String code) {
        Bench bench = new Bench();
        String published = bench.publish(module(gives, locals, code));
        Check.due(what + " is published", published.startsWith(looking ? "FAULTY" : "DONE"), true);
        bench.run(7, 0);
        Check.due(what + " slips", bench.ledger.slips() > 0, !looking);
    }

    private static void sound() {
        Bench bench = new Bench();
        Check.due("sound", bench.publish(module("long", "S0", "long 1; pack 0; store 0; move 0; unpack 0; ret")), "DONE");
        Check.due("sound", bench.run(7, 0), "DONE gas 6 1");
        Check.due("sound code does not slip", bench.ledger.slips(), 0);
    }

    /** A vector of one thing twice, of which each is one of one thing twice, and so on: nobody waits for its size. */
    private static void sizesWithoutEnd() {
        // What is written shares its elements with what it was moved from, so the last one can be had twice.
        String twice = "vector 1 0; store 1; move 0; vector 1 1; store 2; lend! 2; store 3; move 2; lend! 1; write; "
            + "move 3; last 1; store 4; lend! 1; move 4; push 1; move 1; store 0; ";
        Bench bench = new Bench();
        Assembly module = module("", "*S1 *S1 *S1 &!*S1 *S1", "vector 1 0; store 0; " + twice.repeat(35) + "copy 0; ret");
        Check.due("published", bench.publish(module), "DONE");
        Check.due("ended", bench.run(7, 0), "ERROR 5 gas 20000");
    }

    /** Modules by chance with much spoiled in them: no call fails, and all end. */
    private static void anyCode(Random random) {
        Bench bench = new Bench();
        TreeMap<Integer, ModelModule> there = new TreeMap<>();
        there.put(0, ModelModule.coin());
        for (int number = 7; number < 11; number++) {
            ModelMaker maker = new ModelMaker(random, there);
            maker.make(number);
            byte[] bytes = maker.spoil(random.nextInt(12));
            if (bytes.length > 2048 || !bench.publish(bytes).equals("DONE")) {
                continue;
            }
            ModelModule m = new ModelModule(bytes);
            m.read();
            m.fit(there);
            there.put(m.number, m);
            for (ModelModule.Function f : m.functions.subList(0, m.ownFunctions)) {
                bench.ledger.begin();
                bench.ledger.call(1, bench.ledger.account(1, 1), 400, m.number, f.number);
                f.takes.forEach(t -> bench.ledger.argument(t.get(0), 0, 1));
                Check.due("executed", bench.ledger.execute() >= 0, true);
            }
        }
        bench.ledger.root(0);
        bench.ledger.coins(3);
    }
}
