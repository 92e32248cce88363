/**
 * Part 1: "In all functions there are at most 8192 instructions (with those told at the SHORT)". A
 * tape of 2048 bytes has not so many, so the class is compiled here once more with a longer one.
 */
public final class LongTapeTest {
    private LongTapeTest() {
    }

    public static void main(String[] args) throws Exception {
        if (args.length == 0) {
            Altered.run("LongTapeTest", "long",
                text -> Altered.replaceOnce(text, "int TAPE_MOST = 2048;", "int TAPE_MOST = 20000;"));
            return;
        }
        due("8192 in eight", "DONE", 1024, 1024, 1024, 1024, 1024, 1024, 1024, 1024);
        due("8193 in nine", "9", 1024, 1024, 1024, 1024, 1024, 1024, 1024, 1024, 1);
        due("8192 in nine", "DONE", 1023, 1023, 1023, 1023, 1023, 1023, 1023, 1023, 8);
        due("8193 in nine, the last with nine", "9", 1023, 1023, 1023, 1023, 1023, 1023, 1023, 1023, 9);
        due("more in the ninth, others behind it", "9", 1023, 1023, 1023, 1023, 1023, 1023, 1023, 1023, 1024, 1, 1);
        due("8193 in the last of 64", "64", sixtyFour(130));
        due("8192 in the last of 64", "DONE", sixtyFour(129));
        beforeTheyAreRead();
        Check.end();
    }

    /** 63 functions of 128 but the first one, which has one less, and one of so many. */
    private static int[] sixtyFour(int last) {
        int[] counts = new int[64];
        java.util.Arrays.fill(counts, 128);
        counts[0] = 127;
        counts[63] = last;
        return counts;
    }

    private static Assembly module(int... counts) {
        Assembly module = new Assembly(7);
        for (int count : counts) {
            module.function(0, "", "", "", "nothing; ".repeat(count - 1) + "ret");
        }
        return module;
    }

    /** The SHORT of function f (counted from 1) in a module of such functions. */
    private static int place(int f, int... counts) {
        int place = 11;
        for (int i = 0; i < f - 1; i++) {
            place += 6 + counts[i];
        }
        return place + 4;
    }

    private static void due(String what, String want, int... counts) {
        String due = want.equals("DONE") ? want : "FAULTY 3 " + place(Integer.parseInt(want), counts);
        Check.due(what, new Bench().publish(module(counts)), due);
    }

    /** "also in all up to there: before they are read" */
    private static void beforeTheyAreRead() {
        int[] counts = {1024, 1024, 1024, 1024, 1024, 1024, 1024, 1024, 1};
        byte[] bytes = module(counts).toBytes();
        int end = place(9, counts) + 2;
        Check.due("the tape ends behind the SHORT", new Bench().publish(java.util.Arrays.copyOf(bytes, end)), "FAULTY 3 " + (end - 2));
        Check.due("the tape ends within the SHORT", new Bench().publish(java.util.Arrays.copyOf(bytes, end - 1)), "FAULTY 2 " + (end - 1));
        byte[] other = bytes.clone();
        other[end] = 60;
        Check.due("no operation behind it", new Bench().publish(other), "FAULTY 3 " + (end - 2));
    }
}
