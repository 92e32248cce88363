import java.util.StringJoiner;

/** A ledger with calls that lay whole transactions, and texts of what came of them. */
final class Bench {
    static final String[] OUTCOMES = {"DONE", "ABORTED", "ERROR", "REFUSED", "FAULTY"};

    final ResourceLedger ledger = new ResourceLedger(4);

    Bench() {
        ledger.mint(1, 100_000_000L);
        ledger.mint(2, 100_000_000L);
    }

    void tape(byte[] bytes) {
        for (int i = 0; i < bytes.length; i += 8) {
            int n = Math.min(8, bytes.length - i);
            long word = 0;
            for (int k = 0; k < n; k++) {
                word = word << 8 | bytes[i + k] & 255;
            }
            ledger.type(word, n);
        }
    }

    /** Publishes from account 1, in a block of its own: "DONE", or "FAULTY code place", .. */
    String publish(byte[] bytes) {
        tape(bytes);
        ledger.begin();
        ledger.publish(1, ledger.account(1, 1), 2000);
        ledger.execute();
        int outcome = ledger.told(0, 0);
        String text = OUTCOMES[outcome];
        if (outcome != 0) {
            text += " " + ledger.code(0);
        }
        return outcome == 4 ? text + " " + ledger.told(0, 3) : text;
    }

    String publish(Assembly module) {
        return publish(module.toBytes());
    }

    /** Calls from a sender, in a block of its own; arguments are words like long:5, wide:1:2. */
    String run(long sender, int limit, int module, int function, String... arguments) {
        ledger.begin();
        ledger.call(sender, ledger.account(sender, 1), limit, module, function);
        for (String word : arguments) {
            argue(word);
        }
        ledger.execute();
        return tell(0);
    }

    String run(int module, int function, String... arguments) {
        return run(1, 20000, module, function, arguments);
    }

    void argue(String word) {
        String[] parts = word.split(":");
        int type = "truth byte long wide addr ".indexOf(parts[0] + " ");
        int[] starts = {0, 6, 11, 16, 21};
        for (int t = 0; t < starts.length; t++) {
            if (starts[t] == type) {
                boolean two = parts.length == 3;
                ledger.argument(t + 1, two ? number(parts[1]) : 0, number(parts[parts.length - 1]));
                return;
            }
        }
        throw new IllegalArgumentException(word);
    }

    private static long number(String word) {
        return word.startsWith("-") ? Long.parseLong(word) : Long.parseUnsignedLong(word);
    }

    /** The BYTES of a resource; none when there is no such one. */
    byte[] stored(long address, int module, int structure) {
        byte[] row = new byte[Math.max(ledger.resource(address, module, structure), 0)];
        for (int i = 0; i < row.length; i++) {
            row[i] = (byte) ledger.byteOf(i);
        }
        return row;
    }

    /** All that is told of the state, in one text: where two are alike, nothing has changed. */
    String state() {
        StringJoiner text = new StringJoiner(" ");
        for (int i = 0; i < 4; i++) {
            text.add(ledger.places(i) + "/" + ledger.coins(i) + "/" + ledger.root(i));
        }
        return text.toString();
    }

    /** Outcome, code (but when DONE), gas, and the results' lower halves (wides: both). */
    String tell(int t) {
        StringJoiner text = new StringJoiner(" ");
        int outcome = ledger.told(t, 0);
        text.add(OUTCOMES[outcome]);
        if (outcome != 0) {
            text.add(String.valueOf(ledger.code(t)));
        }
        text.add("gas " + ledger.told(t, 1));
        for (int i = 0; i < ledger.told(t, 2); i++) {
            String upper = ledger.result(t, i, 2) == 4 ? Long.toUnsignedString(ledger.result(t, i, 1)) + ":" : "";
            text.add(upper + Long.toUnsignedString(ledger.result(t, i, 0)));
        }
        return text.toString();
    }
}
