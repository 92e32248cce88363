import java.util.Arrays;

/**
 * A ledger of resources: modules that are looked at before they are done, transactions that call
 * them by gas, and one root of digests over all places. DOC.md is the document it keeps to.
 */
public final class ResourceLedger {
    public static final int BAD = -1;
    public static final int NO = -2;
    public static final int FULL = -3;

    private static final int TAPE_MOST = 2048;
    private static final int WEAVE_MOST = 4096;
    private static final int BLOCK_MOST = 32;
    private static final int PLACES_MOST = 256;
    private static final int MODULES_MOST = 8;
    private static final int ROW_MOST = 8;
    private static final int LIMIT_LEAST = 10;
    private static final int LIMIT_MOST = 20000;
    private static final int SIZE_MOST = 64;
    private static final long COINS_BOUND = 1L << 62;

    private static final int DONE = 0;
    private static final int ABORTED = 1;
    private static final int ERROR = 2;
    private static final int REFUSED = 3;
    private static final int FAULTY = 4;

    private static final int TRUTH = 1;
    private static final int BYTE = 2;
    private static final int LONG = 3;
    private static final int WIDE = 4;
    private static final int ADDRESS = 5;
    private static final int STRUCTURE = 6;
    private static final int VECTOR = 7;
    private static final int REFERENCE = 8;
    private static final int WRITING = 9;
    // A COIN is kept as one number: no code reaches its field, so no reference ever points to it.
    private static final int COIN = 10;

    private static final int COPY = 1;
    private static final int DROP = 2;
    private static final int STORE = 4;
    private static final int KEY = 8;

    private static final int PUBLIC = 1;
    private static final int ENTRY = 2;
    private static final int RESOURCES = 4;

    private final byte[] tape = new byte[TAPE_MOST];
    private int tapeLength;
    private int weaveLength;
    private final Transaction[] block = new Transaction[BLOCK_MOST];
    private int blockLength;
    private int doneLength;
    private final State state = new State();
    private final Reader reader = new Reader();
    private final Looker looker = new Looker();
    private final Machine machine;
    private final Tree tree = new Tree();
    private final byte[] asked = new byte[SIZE_MOST * 16];
    private int askedLength;

    /** The weave makes no difference to any answer, so neither workers nor its numbers are kept. */
    public ResourceLedger(int workers) {
        machine = new Machine(state);
        for (int t = 0; t < BLOCK_MOST; t++) {
            block[t] = new Transaction();
        }
        Program coin = state.programs[0];
        coin.lay(Program.COIN_BYTES);
        reader.read(coin);
        coin.measure(state);
    }

    public int type(long bytes, int n) {
        if (n < 1 || n > 8) {
            return BAD;
        }
        if (tapeLength + n > TAPE_MOST) {
            return FULL;
        }
        for (int i = n - 1; i >= 0; i--) {
            tape[tapeLength++] = (byte) (bytes >>> (8 * i));
        }
        return tapeLength;
    }

    public boolean mint(long address, long coins) {
        if (coins < 0 || coins >= COINS_BOUND - (state.minted - state.burned)) {
            return false;
        }
        int a = state.findAccount(address);
        if (a < 0) {
            if (state.placeCount() >= PLACES_MOST) {
                return false;
            }
            a = state.openAccount(address);
        }
        state.balance[a] += coins;
        state.minted += coins;
        tree.stale = true;
        return true;
    }

    public int begin() {
        int had = blockLength;
        blockLength = 0;
        doneLength = 0;
        return had;
    }

    public int publish(long sender, long sequence, int limit) {
        if (limit < LIMIT_LEAST || limit > LIMIT_MOST) {
            return BAD;
        }
        if (blockLength >= BLOCK_MOST) {
            return FULL;
        }
        Transaction t = block[blockLength];
        t.lay(sender, sequence, limit);
        t.bytes = Arrays.copyOf(tape, tapeLength);
        tapeLength = 0;
        return blockLength++;
    }

    public int call(long sender, long sequence, int limit, int module, int function) {
        if (limit < LIMIT_LEAST || limit > LIMIT_MOST) {
            return BAD;
        }
        if (module < 0 || module > 65535 || function < 0 || function > 63) {
            return BAD;
        }
        if (blockLength >= BLOCK_MOST) {
            return FULL;
        }
        Transaction t = block[blockLength];
        t.lay(sender, sequence, limit);
        t.calls = true;
        t.module = module;
        t.function = function;
        return blockLength++;
    }

    public int argument(int type, long high, long low) {
        if (!isArgument(type, high, low)) {
            return BAD;
        }
        if (blockLength == doneLength || !block[blockLength - 1].calls) {
            return NO;
        }
        return block[blockLength - 1].addArgument(type, high, low);
    }

    private static boolean isArgument(int type, long high, long low) {
        if (type < TRUTH || type > ADDRESS) {
            return false;
        }
        if (type != WIDE && high != 0) {
            return false;
        }
        if (type == TRUTH) {
            return low == 0 || low == 1;
        }
        return type != BYTE || (low >= 0 && low <= 255);
    }

    public int weave(long bits) {
        if (weaveLength + 16 > WEAVE_MOST) {
            return FULL;
        }
        weaveLength += 16;
        return weaveLength;
    }

    public int unweave() {
        int had = weaveLength;
        weaveLength = 0;
        return had;
    }

    public int execute() {
        if (doneLength >= blockLength) {
            return NO;
        }
        int done = 0;
        for (int i = doneLength; i < blockLength; i++) {
            Transaction t = block[i];
            int refusal = refusalOf(t);
            if (refusal != 0) {
                t.end(REFUSED, refusal, 0);
                continue;
            }
            state.charge(t);
            if (t.calls) {
                machine.run(t);
            } else {
                takeModule(t);
            }
            state.settle(t);
            if (t.outcome == DONE) {
                done++;
            }
        }
        doneLength = blockLength;
        tree.stale = true;
        return done;
    }

    private int refusalOf(Transaction t) {
        int a = state.findAccount(t.sender);
        if (a < 0) {
            return 1;
        }
        if (state.sequence[a] != t.sequence) {
            return 2;
        }
        if (state.balance[a] < t.limit) {
            return 3;
        }
        if (!t.calls) {
            return 0;
        }
        Program p = state.findProgram(t.module);
        if (p == null) {
            return 4;
        }
        if (t.function >= p.ownFunctions) {
            return 5;
        }
        if ((p.flags(t.function) & ENTRY) == 0) {
            return 6;
        }
        if (!t.fits(p)) {
            return 7;
        }
        return p.givesPlain(t.function) ? 0 : 8;
    }

    private void takeModule(Transaction t) {
        int gas = 10 + (t.bytes.length + 15) / 16;
        if (gas > t.limit) {
            t.end(ERROR, 5, t.limit);
            return;
        }
        if (state.moduleCount >= MODULES_MOST) {
            t.end(ERROR, 4, gas);
            return;
        }
        Program draft = state.programs[state.moduleCount + 1];
        draft.lay(t.bytes);
        int fault = reader.read(draft);
        t.place = reader.place;
        if (fault == 0) {
            fault = misfitOf(draft, t);
        }
        if (fault == 0) {
            fault = looker.look(draft);
            t.place = looker.place;
        }
        if (fault != 0) {
            t.end(FAULTY, fault, gas);
        } else if (state.placeCount() >= PLACES_MOST) {
            t.end(ERROR, 4, gas);
        } else {
            state.moduleCount++;
            t.end(DONE, 0, gas);
        }
    }

    /** Faults 21 to 25: how a module that can be read fits to those that are there. */
    private int misfitOf(Program draft, Transaction t) {
        t.place = 4;
        if (draft.number == 0 || state.findProgram(draft.number) != null) {
            return 21;
        }
        t.place = draft.strangeStructure(state);
        if (t.place >= 0) {
            return 22;
        }
        t.place = draft.strangeFunction(state);
        if (t.place >= 0) {
            return 23;
        }
        t.place = draft.weakStructure();
        if (t.place >= 0) {
            return 24;
        }
        draft.measure(state);
        t.place = draft.deepStructure();
        return t.place >= 0 ? 25 : 0;
    }

    public int told(int t, int what) {
        if (t < 0 || t >= blockLength || what < 0 || what > 3) {
            return BAD;
        }
        if (t >= doneLength) {
            return NO;
        }
        switch (what) {
            case 0:
                return block[t].outcome;
            case 1:
                return block[t].gas;
            case 2:
                return block[t].resultCount;
            default:
                return block[t].outcome == FAULTY ? block[t].place : 0;
        }
    }

    public long code(int t) {
        return t < 0 || t >= doneLength ? 0 : block[t].code;
    }

    public long result(int t, int i, int what) {
        if (t < 0 || t >= doneLength || i < 0 || i >= block[t].resultCount) {
            return 0;
        }
        switch (what) {
            case 0:
                return block[t].resultLow[i];
            case 1:
                return block[t].resultHigh[i];
            case 2:
                return block[t].resultType[i];
            default:
                return 0;
        }
    }

    public long account(long address, int what) {
        int a = state.findAccount(address);
        if (a < 0) {
            return 0;
        }
        if (what == 0) {
            return state.balance[a];
        }
        return what == 1 ? state.sequence[a] : 0;
    }

    public long coins(int what) {
        switch (what) {
            case 0:
                return state.minted;
            case 1:
                return state.burned;
            case 2:
                return state.allBalances();
            case 3:
                return state.storedCoins();
            default:
                return 0;
        }
    }

    public int places(int what) {
        switch (what) {
            case 0:
                return state.placeCount();
            case 1:
                return state.moduleCount;
            case 2:
                return state.resourceCount;
            case 3:
                return state.accountCount;
            default:
                return BAD;
        }
    }

    public int resource(long address, int module, int structure) {
        askedLength = 0;
        int slot = state.findResource(address, module, structure);
        if (slot < 0) {
            return NO;
        }
        askedLength = state.writeBytes(slot, asked);
        return askedLength;
    }

    public int byteOf(int i) {
        return i < 0 || i >= askedLength ? BAD : asked[i] & 255;
    }

    public long root(int i) {
        if (i < 0 || i > 3) {
            return 0;
        }
        if (tree.stale) {
            tree.rebuild(state);
        }
        return tree.top[i];
    }

    public int slips() {
        return machine.slipCount();
    }

    /** One transaction of the block, and what came of it. */
    private static final class Transaction {
        boolean calls;
        long sender;
        long sequence;
        int limit;
        int module;
        int function;
        byte[] bytes;
        int argumentCount;
        final int[] argumentType = new int[ROW_MOST];
        final long[] argumentHigh = new long[ROW_MOST];
        final long[] argumentLow = new long[ROW_MOST];
        int outcome;
        long code;
        int gas;
        int place;
        int resultCount;
        final int[] resultType = new int[ROW_MOST];
        final long[] resultHigh = new long[ROW_MOST];
        final long[] resultLow = new long[ROW_MOST];

        void lay(long from, long number, int most) {
            calls = false;
            sender = from;
            sequence = number;
            limit = most;
            argumentCount = 0;
            resultCount = 0;
            place = 0;
            bytes = null;
        }

        int addArgument(int type, long high, long low) {
            if (argumentCount >= ROW_MOST) {
                return FULL;
            }
            argumentType[argumentCount] = type;
            argumentHigh[argumentCount] = high;
            argumentLow[argumentCount] = low;
            argumentCount++;
            return argumentCount;
        }

        boolean fits(Program p) {
            if (p.takes(function) != argumentCount) {
                return false;
            }
            for (int k = 0; k < argumentCount; k++) {
                if (p.takenType(function, k) != argumentType[k]) {
                    return false;
                }
            }
            return true;
        }

        void end(int how, long why, int used) {
            outcome = how;
            code = why;
            gas = used;
        }

        void addResult(int type, long high, long low) {
            if (resultCount < ROW_MOST) {
                resultType[resultCount] = type;
                resultHigh[resultCount] = high;
                resultLow[resultCount] = low;
                resultCount++;
            }
        }
    }

    /** A module as tables over its bytes; types are longs in the module's own numbering. */
    private static final class Program {
        static final int STRUCTURES_MOST = 32;
        static final int FUNCTIONS_MOST = 64;
        static final int FOREIGN_MOST = 32;
        static final int DEPTH_MOST = 24;

        static final int ABILITIES = 0;
        static final int ABILITIES_PLACE = 1;
        static final int FIELDS = 2;
        static final int FIELD_COUNT = 3;
        static final int STRUCTURE_HOME = 4;
        static final int STRUCTURE_NUMBER = 5;
        static final int DEPTH = 6;
        static final int STRUCTURE_ROW = 7;

        static final int FLAGS = 0;
        static final int LISTS = 1;
        static final int TAKES = 2;
        static final int GIVES = 3;
        static final int LOCALS = 4;
        static final int CODE = 5;
        static final int INSTRUCTIONS = 6;
        static final int FUNCTION_HOME = 7;
        static final int FUNCTION_NUMBER = 8;
        static final int FUNCTION_ROW = 9;

        // Module 0 as bytes, so that looking needs no case of its own for it; its code is never done.
        static final byte[] COIN_BYTES = {
            82, 76, 77, 49, 0, 0, 1, 4, 1, 3, 0, 0, 0, 6,
            1, 1, 3, 1, 6, 0, 0, 0, 1, 35,
            1, 2, 5, 6, 0, 0, 0, 0, 1, 35,
            1, 1, 8, 6, 0, 1, 3, 0, 0, 1, 35,
            1, 2, 6, 0, 6, 0, 1, 6, 0, 0, 0, 1, 35,
            1, 2, 6, 0, 3, 2, 6, 0, 6, 0, 0, 0, 1, 35,
            1, 1, 5, 1, 3, 0, 0, 1, 35};

        byte[] bytes;
        int length;
        int number;
        // A type or an instruction takes at least a byte of the tape, so these rows always suffice.
        final long[] types = new long[TAPE_MOST];
        int typeCount;
        final int[] starts = new int[TAPE_MOST];
        int startCount;
        final int[] structureRows = new int[(STRUCTURES_MOST + FOREIGN_MOST) * STRUCTURE_ROW];
        int ownStructures;
        int allStructures;
        final int[] functionRows = new int[(FUNCTIONS_MOST + FOREIGN_MOST) * FUNCTION_ROW];
        int ownFunctions;
        int foreignFunctions;
        int firstElement;
        int elementCount;

        void lay(byte[] from) {
            bytes = from;
            length = from.length;
            clear();
        }

        void clear() {
            number = 0;
            typeCount = 0;
            startCount = 0;
            foreignFunctions = 0;
        }

        int at(int p) {
            return p < 0 || p >= length ? 0 : bytes[p] & 255;
        }

        long numberAt(int p, int count) {
            long n = 0;
            for (int i = 0; i < count; i++) {
                n = n << 8 | at(p + i);
            }
            return n;
        }

        void addType(long t) {
            if (typeCount < types.length) {
                types[typeCount++] = t;
            }
        }

        void addStart(int p) {
            if (startCount < starts.length) {
                starts[startCount++] = p;
            }
        }

        long typeAt(int i) {
            return i < 0 || i >= typeCount ? 0 : types[i];
        }

        int structureColumn(int s, int column) {
            return s < 0 || s >= allStructures ? 0 : structureRows[s * STRUCTURE_ROW + column];
        }

        void setStructure(int s, int column, int value) {
            if (s >= 0 && s < STRUCTURES_MOST + FOREIGN_MOST) {
                structureRows[s * STRUCTURE_ROW + column] = value;
            }
        }

        // Foreign functions are read before it is known how many own ones there are, so their rows
        // begin behind the most own ones that there can be.
        int functionColumn(int f, int column) {
            if (f < 0 || f >= ownFunctions + foreignFunctions) {
                return 0;
            }
            int row = f < ownFunctions ? f : FUNCTIONS_MOST + f - ownFunctions;
            return functionRows[row * FUNCTION_ROW + column];
        }

        void setFunction(int row, int column, int value) {
            if (row >= 0 && row < FUNCTIONS_MOST + FOREIGN_MOST) {
                functionRows[row * FUNCTION_ROW + column] = value;
            }
        }

        int flags(int f) {
            return functionColumn(f, FLAGS);
        }

        int takes(int f) {
            return functionColumn(f, TAKES);
        }

        int gives(int f) {
            return functionColumn(f, GIVES);
        }

        int localCount(int f) {
            return takes(f) + functionColumn(f, LOCALS);
        }

        int instructions(int f) {
            return functionColumn(f, INSTRUCTIONS);
        }

        int instructionPlace(int f, int i) {
            int s = functionColumn(f, CODE) + i;
            return s < 0 || s >= startCount ? 0 : starts[s];
        }

        long takenType(int f, int k) {
            return typeAt(functionColumn(f, LISTS) + k);
        }

        long givenType(int f, int k) {
            return typeAt(functionColumn(f, LISTS) + takes(f) + k);
        }

        long localType(int f, int k) {
            return typeAt(functionColumn(f, LISTS) + (k < takes(f) ? k : gives(f) + k));
        }

        int fieldCount(int s) {
            return structureColumn(s, FIELD_COUNT);
        }

        long fieldType(int s, int k) {
            return typeAt(structureColumn(s, FIELDS) + k);
        }

        long elementType(int e) {
            return typeAt(firstElement + e);
        }

        static int headShift(long t) {
            int shift = 56;
            while (shift > 0 && t >>> shift == 0) {
                shift -= 8;
            }
            return shift;
        }

        static int head(long t) {
            int shift = 56;
            while (shift > 0 && t >>> shift == 0) {
                shift -= 8;
            }
            return (int) (t >>> shift) & 255;
        }

        static boolean isReference(long t) {
            return head(t) >= REFERENCE;
        }

        static long pointee(long t) {
            return t & ((1L << headShift(t)) - 1);
        }

        static long prefixed(int first, long t) {
            int shift = headShift(t) + 8;
            return shift > 56 ? t : (long) first << shift | t;
        }

        static long structureType(int s) {
            return STRUCTURE << 8 | s;
        }

        static boolean endsInStructure(long t) {
            return (t >>> 8 & 255) == STRUCTURE;
        }

        int abilities(long t) {
            int head = head(t);
            if (head >= REFERENCE) {
                return COPY | DROP;
            }
            int own = COPY | DROP | STORE;
            if (endsInStructure(t)) {
                own = structureColumn((int) t & 255, ABILITIES);
            }
            return head == VECTOR ? own & ~KEY : own;
        }

        boolean givesPlain(int f) {
            for (int k = 0; k < gives(f); k++) {
                long t = givenType(f, k);
                if (t < TRUTH || t > ADDRESS) {
                    return false;
                }
            }
            return true;
        }

        int strangeStructure(State state) {
            for (int s = ownStructures; s < allStructures; s++) {
                Program home = state.findProgram(structureColumn(s, STRUCTURE_HOME));
                int there = structureColumn(s, STRUCTURE_NUMBER);
                if (home == null || there >= home.ownStructures
                        || home.structureColumn(there, ABILITIES) != structureColumn(s, ABILITIES)) {
                    return s - ownStructures;
                }
            }
            return -1;
        }

        int strangeFunction(State state) {
            for (int k = 0; k < foreignFunctions; k++) {
                int f = ownFunctions + k;
                Program home = state.findProgram(functionColumn(f, FUNCTION_HOME));
                int there = functionColumn(f, FUNCTION_NUMBER);
                if (home == null || there >= home.ownFunctions
                        || (home.flags(there) & PUBLIC) == 0
                        || ((home.flags(there) ^ flags(f)) & RESOURCES) != 0
                        || !sameLists(f, home, there)) {
                    return k;
                }
            }
            return -1;
        }

        private boolean sameLists(int f, Program home, int there) {
            if (takes(f) != home.takes(there) || gives(f) != home.gives(there)) {
                return false;
            }
            for (int k = 0; k < takes(f) + gives(f); k++) {
                if (!sameType(takenType(f, k), home, home.takenType(there, k))) {
                    return false;
                }
            }
            return true;
        }

        private boolean sameType(long t, Program home, long u) {
            if (t >>> 8 != u >>> 8) {
                return false;
            }
            if (!endsInStructure(t)) {
                return t == u;
            }
            int s = (int) t & 255;
            int r = (int) u & 255;
            return structureColumn(s, STRUCTURE_HOME) == home.structureColumn(r, STRUCTURE_HOME)
                && structureColumn(s, STRUCTURE_NUMBER) == home.structureColumn(r, STRUCTURE_NUMBER);
        }

        int weakStructure() {
            for (int s = 0; s < ownStructures; s++) {
                int own = structureColumn(s, ABILITIES);
                int need = own & (COPY | DROP | STORE) | ((own & KEY) != 0 ? STORE : 0);
                for (int k = 0; k < fieldCount(s); k++) {
                    if ((abilities(fieldType(s, k)) & need) != need) {
                        return s;
                    }
                }
            }
            return -1;
        }

        /** No structure contains itself, so as many rounds as there are structures settle all. */
        void measure(State state) {
            for (int s = 0; s < allStructures; s++) {
                Program home = s < ownStructures ? null
                    : state.findProgram(structureColumn(s, STRUCTURE_HOME));
                setStructure(s, DEPTH, home == null ? 0
                    : home.structureColumn(structureColumn(s, STRUCTURE_NUMBER), DEPTH));
            }
            for (int round = 0; round < ownStructures; round++) {
                for (int s = 0; s < ownStructures; s++) {
                    int most = 0;
                    for (int k = 0; k < fieldCount(s); k++) {
                        most = Math.max(most, depthOf(fieldType(s, k)));
                    }
                    setStructure(s, DEPTH, most + 1);
                }
            }
        }

        private int depthOf(long t) {
            int depth = endsInStructure(t) ? structureColumn((int) t & 255, DEPTH) : 1;
            for (int shift = headShift(t); shift > 0 && (t >>> shift & 255) == VECTOR; shift -= 8) {
                depth++;
            }
            return depth;
        }

        int deepStructure() {
            for (int s = 0; s < ownStructures; s++) {
                if (structureColumn(s, DEPTH) > DEPTH_MOST) {
                    return s;
                }
            }
            return -1;
        }
    }

    /** Reads a module's bytes into its tables: faults 1 to 14. */
    private static final class Reader {
        private static final int INSTRUCTIONS_MOST = 1024;
        private static final int ALL_INSTRUCTIONS_MOST = 8192;

        int place;
        private int fault;
        private Program p;
        private int at;
        // The same way is gone twice: numbers can be judged only when all counts are known.
        private boolean judging;
        private int told;
        private int locals;
        private int instructions;
        private final int[] holds = new int[Program.STRUCTURES_MOST];

        int read(Program program) {
            p = program;
            fault = 0;
            place = 0;
            for (int pass = 0; pass < 2 && fault == 0; pass++) {
                judging = pass == 1;
                at = 0;
                told = 0;
                p.clear();
                readBeginning();
                readStructures();
                readForeignStructures();
                readForeignFunctions();
                p.firstElement = p.typeCount;
                p.elementCount = readNumber(0, 32);
                readTypes(p.elementCount, false);
                readFunctions();
                if (at < p.length) {
                    fail(6, at);
                }
            }
            if (fault == 0) {
                findRound();
            }
            return fault;
        }

        private void fail(int why, int where) {
            if (fault == 0) {
                fault = why;
                place = where;
            }
        }

        private int readByte() {
            if (fault != 0) {
                return 0;
            }
            if (at >= p.length) {
                fault = 2;
                place = p.length;
                return 0;
            }
            return p.bytes[at++] & 255;
        }

        private int readShort() {
            int high = readByte();
            return high << 8 | readByte();
        }

        private int readNumber(int least, int most) {
            int where = at;
            int n = readByte();
            if (n < least || n > most) {
                fail(3, where);
            }
            return fault == 0 ? n : 0;
        }

        private void readBeginning() {
            for (int i = 0; i < 4; i++) {
                int where = at;
                if (readByte() != Program.COIN_BYTES[i]) {
                    fail(1, where);
                }
            }
            p.number = readShort();
        }

        private void readStructures() {
            p.ownStructures = readNumber(0, Program.STRUCTURES_MOST);
            if (!judging) {
                p.allStructures = p.ownStructures;
            }
            for (int s = 0; s < p.ownStructures && fault == 0; s++) {
                p.setStructure(s, Program.ABILITIES_PLACE, at);
                p.setStructure(s, Program.ABILITIES, readNumber(0, 15));
                int count = readNumber(1, 16);
                p.setStructure(s, Program.FIELDS, p.typeCount);
                p.setStructure(s, Program.FIELD_COUNT, count);
                p.setStructure(s, Program.STRUCTURE_HOME, p.number);
                p.setStructure(s, Program.STRUCTURE_NUMBER, s);
                readTypes(count, false);
            }
        }

        private void readForeignStructures() {
            int count = readNumber(0, Program.FOREIGN_MOST);
            p.allStructures = p.ownStructures + count;
            for (int s = p.ownStructures; s < p.allStructures && fault == 0; s++) {
                p.setStructure(s, Program.STRUCTURE_HOME, readShort());
                p.setStructure(s, Program.STRUCTURE_NUMBER, readByte());
                p.setStructure(s, Program.ABILITIES, readNumber(0, 15));
                p.setStructure(s, Program.FIELD_COUNT, 0);
            }
        }

        private void readForeignFunctions() {
            p.foreignFunctions = readNumber(0, Program.FOREIGN_MOST);
            for (int k = 0; k < p.foreignFunctions && fault == 0; k++) {
                int row = Program.FUNCTIONS_MOST + k;
                p.setFunction(row, Program.FUNCTION_HOME, readShort());
                p.setFunction(row, Program.FUNCTION_NUMBER, readByte());
                p.setFunction(row, Program.FLAGS, readNumber(0, 7));
                p.setFunction(row, Program.LISTS, p.typeCount);
                p.setFunction(row, Program.TAKES, readList(8));
                p.setFunction(row, Program.GIVES, readList(8));
                p.setFunction(row, Program.LOCALS, 0);
                p.setFunction(row, Program.INSTRUCTIONS, 0);
            }
        }

        private void readFunctions() {
            int count = readNumber(0, Program.FUNCTIONS_MOST);
            p.ownFunctions = count;
            for (int f = 0; f < count && fault == 0; f++) {
                p.setFunction(f, Program.FUNCTION_HOME, p.number);
                p.setFunction(f, Program.FUNCTION_NUMBER, f);
                p.setFunction(f, Program.FLAGS, readNumber(0, 7));
                p.setFunction(f, Program.LISTS, p.typeCount);
                int takes = readList(8);
                p.setFunction(f, Program.TAKES, takes);
                p.setFunction(f, Program.GIVES, readList(8));
                int further = readList(32);
                p.setFunction(f, Program.LOCALS, further);
                locals = takes + further;
                int where = at;
                instructions = readShort();
                told += instructions;
                if (instructions < 1 || instructions > INSTRUCTIONS_MOST
                        || told > ALL_INSTRUCTIONS_MOST) {
                    fail(3, where);
                }
                p.setFunction(f, Program.CODE, p.startCount);
                p.setFunction(f, Program.INSTRUCTIONS, instructions);
                for (int i = 0; i < instructions && fault == 0; i++) {
                    readInstruction();
                }
            }
        }

        private int readList(int most) {
            int count = readNumber(0, most);
            readTypes(count, true);
            return count;
        }

        private void readTypes(int count, boolean references) {
            for (int k = 0; k < count && fault == 0; k++) {
                p.addType(readOneType(references));
            }
        }

        private long readOneType(boolean references) {
            long t = 0;
            int where = at;
            int b = readByte();
            if (references && (b == REFERENCE || b == WRITING)) {
                t = b;
                where = at;
                b = readByte();
            }
            for (int k = 0; k < 4 && b == VECTOR; k++) {
                t = t << 8 | b;
                where = at;
                b = readByte();
            }
            if (b < TRUTH || b > STRUCTURE) {
                fail(4, where);
            }
            t = t << 8 | b;
            if (b != STRUCTURE) {
                return t;
            }
            where = at;
            int s = readByte();
            if (judging && s >= p.allStructures) {
                fail(7, where);
            }
            return t << 8 | s;
        }

        private int readJudged(int bound, int why) {
            int where = at;
            int n = readByte();
            if (judging && n >= bound) {
                fail(why, where);
            }
            return n;
        }

        private int readOwnStructure() {
            int where = at;
            int s = readJudged(p.allStructures, 7);
            if (judging && s >= p.ownStructures) {
                fail(8, where);
            }
            return s;
        }

        private void readInstruction() {
            p.addStart(at);
            int where = at;
            int op = readByte();
            if (op > 59) {
                fail(5, where);
            } else if (op >= 2 && op <= 4) {
                where = at;
                if (readShort() >= instructions && judging) {
                    fail(13, where);
                }
            } else if (op >= 5 && op <= 10) {
                pass(op == 5 ? 1 : op == 7 ? 16 : op == 6 || op == 10 ? 8 : 0);
            } else if (op >= 11 && op <= 15) {
                readJudged(locals, 10);
            } else if (op == 16 || op == 17) {
                int s = readOwnStructure();
                readJudged(p.fieldCount(s), 9);
            } else if (op == 21 || op == 22 || (op >= 47 && op <= 51)) {
                readOwnStructure();
            } else if (op == 23) {
                readJudged(p.ownFunctions + p.foreignFunctions, 11);
            } else if (op >= 52 && op <= 58) {
                readJudged(p.elementCount, 12);
                if (op == 52) {
                    readNumber(0, 64);
                }
            }
        }

        private void pass(int count) {
            for (int i = 0; i < count && fault == 0; i++) {
                readByte();
            }
        }

        /** Fault 14: which own structures each one reaches by its fields, and whether itself. */
        private void findRound() {
            int count = p.ownStructures;
            for (int s = 0; s < count; s++) {
                holds[s] = 0;
                for (int k = 0; k < p.fieldCount(s); k++) {
                    long t = p.fieldType(s, k);
                    int inner = (int) t & 255;
                    if (Program.endsInStructure(t) && inner < count) {
                        holds[s] |= 1 << inner;
                    }
                }
            }
            for (int by = 0; by < count; by++) {
                for (int s = 0; s < count; s++) {
                    if ((holds[s] >>> by & 1) != 0) {
                        holds[s] |= holds[by];
                    }
                }
            }
            for (int s = 0; s < count; s++) {
                if ((holds[s] >>> s & 1) != 0) {
                    fail(14, p.structureColumn(s, Program.ABILITIES_PLACE));
                }
            }
        }
    }

    /** Looks at the functions of a module: faults 31 to 46. */
    private static final class Looker {
        private static final int STACK_MOST = 64;
        private static final int LOCALS_MOST = 40;
        private static final int CODE_MOST = 1024;
        private static final long TAKEN_ORIGINS = 255L << 40;
        private static final long RESOURCE_ORIGINS = -1L << 48;

        int place;
        private int fault;
        private Program p;
        private int function;
        private int at;
        // What is no live reference has no origins, so it meets nothing.
        private final long[] stackType = new long[STACK_MOST];
        private final long[] stackOrigins = new long[STACK_MOST];
        private final boolean[] stackInside = new boolean[STACK_MOST];
        private int depth;
        private final long[] localType = new long[LOCALS_MOST];
        private final long[] localOrigins = new long[LOCALS_MOST];
        private long droppable;
        private long there;
        private long inside;
        private long takenOrigins;
        private boolean takenInside;
        private boolean flowing;
        // Stacks are empty wherever a branch leads, so locals alone are kept, and only there.
        private final boolean[] target = new boolean[CODE_MOST];
        private final boolean[] reached = new boolean[CODE_MOST];
        private final long[] keptThere = new long[CODE_MOST];
        private final long[] keptInside = new long[CODE_MOST];
        private final long[] keptOrigins = new long[CODE_MOST * LOCALS_MOST];

        int look(Program program) {
            p = program;
            fault = 0;
            place = 0;
            for (int f = 0; f < p.ownFunctions; f++) {
                prepare(f);
                for (at = 0; at < p.instructions(f); at++) {
                    arrive();
                    if (fault == 0) {
                        operate();
                    }
                    if (fault != 0) {
                        place = 1024 * f + at;
                        return 30 + fault;
                    }
                }
            }
            return 0;
        }

        private void prepare(int f) {
            function = f;
            int count = Math.min(p.instructions(f), CODE_MOST);
            for (int i = 0; i < count; i++) {
                target[i] = false;
                reached[i] = false;
            }
            for (int i = 0; i < count; i++) {
                int where = p.instructionPlace(f, i);
                int to = (int) p.numberAt(where + 1, 2);
                if (p.at(where) >= 2 && p.at(where) <= 4 && to < count) {
                    target[to] = true;
                }
            }
            depth = 0;
            inside = 0;
            there = (1L << p.takes(f)) - 1;
            droppable = 0;
            for (int k = 0; k < LOCALS_MOST; k++) {
                long t = k < p.localCount(f) ? p.localType(f, k) : TRUTH;
                localType[k] = t;
                localOrigins[k] = k < p.takes(f) && Program.isReference(t) ? 1L << (40 + k) : 0;
                droppable |= (p.abilities(t) & DROP) != 0 ? 1L << k : 0;
            }
            flowing = true;
            if (target[0]) {
                join(0);
            }
        }

        private void fail(int why) {
            if (fault == 0) {
                fault = why;
            }
        }

        private void arrive() {
            if (target[at] ? !reached[at] : !flowing) {
                fail(10);
            } else if (target[at]) {
                if (depth > 0) {
                    fail(8);
                }
                there = keptThere[at];
                inside = keptInside[at];
                System.arraycopy(keptOrigins, at * LOCALS_MOST, localOrigins, 0, LOCALS_MOST);
            }
        }

        private void operate() {
            int where = p.instructionPlace(function, at);
            int op = p.at(where);
            int a = p.at(where + 1);
            int b = p.at(where + 2);
            if (op == 1) {
                giveBack();
            } else if (op <= 4 || op == 45) {
                steer(op);
            } else if (op <= 10 || op == 35 || op == 46) {
                set(op);
            } else if (op <= 13) {
                useLocal(op, Math.min(a, LOCALS_MOST - 1));
            } else if (op <= 15) {
                borrowLocal(op == 15, Math.min(a, LOCALS_MOST - 1));
            } else if (op <= 20) {
                refer(op, a, b);
            } else if (op <= 22) {
                pack(op == 21, a);
            } else if (op == 23) {
                enter(a);
            } else if (op <= 44) {
                reckon(op);
            } else if (op <= 51) {
                keep(op, a);
            } else {
                lineUp(op, a, b);
            }
            if (fault == 0) {
                leave(op, (int) p.numberAt(where + 1, 2));
            }
        }

        private void leave(int op, int to) {
            if (op >= 2 && op <= 4) {
                come(to);
            }
            flowing = op != 1 && op != 2 && op != 45;
            if (!flowing) {
                depth = 0;
            } else if (at + 1 >= p.instructions(function)) {
                fail(11);
            } else {
                come(at + 1);
            }
        }

        private void come(int to) {
            if (to < 0 || to >= CODE_MOST || !target[to]) {
                return;
            }
            if (to > at) {
                join(to);
            } else {
                comeBack(to);
            }
        }

        private void join(int to) {
            int from = to * LOCALS_MOST;
            if (!reached[to]) {
                reached[to] = true;
                keptThere[to] = there;
                keptInside[to] = inside;
                System.arraycopy(localOrigins, 0, keptOrigins, from, LOCALS_MOST);
                return;
            }
            if (((there ^ keptThere[to]) & ~droppable) != 0) {
                fail(9);
            }
            keptThere[to] &= there;
            keptInside[to] = (keptInside[to] | inside) & keptThere[to];
            for (int k = 0; k < LOCALS_MOST; k++) {
                boolean both = (keptThere[to] >>> k & 1) != 0;
                keptOrigins[from + k] = both ? keptOrigins[from + k] | localOrigins[k] : 0;
            }
        }

        private void comeBack(int to) {
            boolean fits = (keptThere[to] & ~there) == 0
                && (there & ~keptThere[to] & ~droppable) == 0
                && (inside & keptThere[to] & ~keptInside[to]) == 0;
            for (int k = 0; k < LOCALS_MOST; k++) {
                boolean both = (keptThere[to] >>> k & 1) != 0;
                if (both && (localOrigins[k] & ~keptOrigins[to * LOCALS_MOST + k]) != 0) {
                    fits = false;
                }
            }
            if (!fits) {
                fail(9);
            }
        }

        private boolean has(long t, int ability) {
            return (p.abilities(t) & ability) != 0;
        }

        private static boolean writes(long t) {
            return Program.head(t) == WRITING;
        }

        private static boolean isNumber(long t) {
            return t >= BYTE && t <= WIDE;
        }

        private long take() {
            if (depth == 0) {
                fail(1);
                return 0;
            }
            depth--;
            takenOrigins = stackOrigins[depth];
            takenInside = stackInside[depth];
            return stackType[depth];
        }

        private void takeOnly(long t) {
            if (take() != t) {
                fail(3);
            }
        }

        private long takeReference(boolean writing) {
            long t = take();
            if (!Program.isReference(t)) {
                fail(3);
            } else if (writing && !writes(t)) {
                fail(7);
            }
            return Program.pointee(t);
        }

        private void takeReferenceTo(long to, boolean writing) {
            long t = take();
            if (!Program.isReference(t) || Program.pointee(t) != to) {
                fail(3);
            } else if (writing && !writes(t)) {
                fail(7);
            }
        }

        private void put(long t) {
            putReference(t, 0, false);
        }

        private void putReference(long t, long origins, boolean within) {
            if (depth >= STACK_MOST) {
                fail(2);
                return;
            }
            stackType[depth] = t;
            stackOrigins[depth] = origins;
            stackInside[depth] = within;
            depth++;
        }

        private boolean isThere(int k) {
            return (there >>> k & 1) != 0;
        }

        private boolean isLive(long origin, boolean writing) {
            for (int i = 0; i < depth; i++) {
                if ((stackOrigins[i] & origin) != 0 && (!writing || writes(stackType[i]))) {
                    return true;
                }
            }
            for (int k = 0; k < LOCALS_MOST; k++) {
                if ((localOrigins[k] & origin) != 0
                        && (!writing || writes(localType[k]))) {
                    return true;
                }
            }
            return false;
        }

        private boolean isSole(long origins) {
            for (int i = 0; i < depth; i++) {
                if ((stackOrigins[i] & origins) != 0 && (stackInside[i] || !writes(stackType[i]))) {
                    return false;
                }
            }
            for (int k = 0; k < LOCALS_MOST; k++) {
                if ((localOrigins[k] & origins) != 0
                        && ((inside >>> k & 1) != 0 || !writes(localType[k]))) {
                    return false;
                }
            }
            return true;
        }

        private void steer(int op) {
            if (op == 0) {
                if (!has(take(), DROP)) {
                    fail(4);
                }
            } else if (op == 45) {
                takeOnly(LONG);
            } else {
                if (op != 2) {
                    takeOnly(TRUTH);
                }
                if (depth > 0) {
                    fail(8);
                }
            }
        }

        private void giveBack() {
            boolean just = depth == p.gives(function);
            boolean lent = true;
            for (int k = 0; k < depth && just; k++) {
                just = stackType[k] == p.givenType(function, k);
                lent = lent && (stackOrigins[k] & ~TAKEN_ORIGINS) == 0;
            }
            if (!just) {
                fail(12);
            }
            if (!lent) {
                fail(14);
            }
            if ((there & ~droppable) != 0) {
                fail(13);
            }
        }

        private void set(int op) {
            switch (op) {
                case 5:
                    put(BYTE);
                    break;
                case 6:
                    put(LONG);
                    break;
                case 7:
                    put(WIDE);
                    break;
                case 8:
                case 9:
                    put(TRUTH);
                    break;
                case 10:
                case 46:
                    put(ADDRESS);
                    break;
                default:
                    break;
            }
        }

        private void useLocal(int op, int k) {
            long t = localType[k];
            boolean plain = !Program.isReference(t);
            if (op == 13) {
                takeOnly(t);
                if (isThere(k) && !has(t, DROP)) {
                    fail(4);
                }
            } else if (!isThere(k)) {
                fail(5);
            }
            if (op == 11 && !has(t, COPY)) {
                fail(4);
            }
            if (plain && isLive(1L << k, op == 11)) {
                fail(6);
            }
            if (fault != 0) {
                return;
            }
            if (op == 13) {
                setLocal(k, takenOrigins, takenInside);
                there |= 1L << k;
                return;
            }
            putReference(t, localOrigins[k], (inside >>> k & 1) != 0);
            if (op == 12) {
                setLocal(k, 0, false);
                there &= ~(1L << k);
            }
        }

        private void setLocal(int k, long origins, boolean within) {
            localOrigins[k] = origins;
            inside = within ? inside | 1L << k : inside & ~(1L << k);
        }

        private void borrowLocal(boolean writing, int k) {
            long t = localType[k];
            if (!isThere(k)) {
                fail(5);
            }
            if (Program.isReference(t)) {
                fail(3);
            }
            if (isLive(1L << k, !writing)) {
                fail(6);
            }
            putReference(Program.prefixed(writing ? WRITING : REFERENCE, t), 1L << k, false);
        }

        private void refer(int op, int a, int b) {
            if (op <= 17) {
                takeReferenceTo(Program.structureType(a), op == 17);
                long t = Program.prefixed(op == 17 ? WRITING : REFERENCE, p.fieldType(a, b));
                putReference(t, takenOrigins, true);
            } else if (op == 18) {
                long t = takeReference(false);
                if (!has(t, COPY)) {
                    fail(4);
                }
                put(t);
            } else if (op == 19) {
                long t = takeReference(true);
                long origins = takenOrigins;
                takeOnly(t);
                if ((p.abilities(t) & DROP) == 0) {
                    fail(4);
                }
                if (!isSole(origins)) {
                    fail(6);
                }
            } else {
                long t = takeReference(true);
                putReference(Program.prefixed(REFERENCE, t), takenOrigins, takenInside);
            }
        }

        private void pack(boolean packing, int s) {
            int count = p.fieldCount(s);
            if (packing) {
                for (int k = count - 1; k >= 0; k--) {
                    takeOnly(p.fieldType(s, k));
                }
                put(Program.structureType(s));
                return;
            }
            takeOnly(Program.structureType(s));
            for (int k = 0; k < count; k++) {
                put(p.fieldType(s, k));
            }
        }

        private void enter(int f) {
            int count = p.takes(f);
            for (int k = count - 1; k >= 0; k--) {
                takeOnly(p.takenType(f, k));
            }
            if (fault != 0) {
                return;
            }
            boolean resources = (p.flags(f) & RESOURCES) != 0;
            if (resources && (p.flags(function) & RESOURCES) == 0) {
                fail(15);
            }
            // What was taken still lies above the stack, until something is put there.
            long all = 0;
            long writing = 0;
            for (int k = depth; k < depth + count; k++) {
                if (writes(stackType[k])) {
                    if (!isSole(stackOrigins[k]) || meetsOther(k, count)) {
                        fail(6);
                    }
                    writing |= stackOrigins[k];
                }
                all |= stackOrigins[k];
            }
            if (resources && ((all & RESOURCE_ORIGINS) != 0 || isLive(RESOURCE_ORIGINS, false))) {
                fail(6);
            }
            for (int k = 0; k < p.gives(f); k++) {
                long t = p.givenType(f, k);
                boolean lent = Program.isReference(t);
                putReference(t, !lent ? 0 : writes(t) ? writing : all, lent);
            }
        }

        private boolean meetsOther(int one, int count) {
            for (int k = depth; k < depth + count; k++) {
                if (k != one && (stackOrigins[k] & stackOrigins[one]) != 0) {
                    return true;
                }
            }
            return false;
        }

        private void reckon(int op) {
            if (op == 32 || op == 33) {
                takeOnly(BYTE);
            }
            long t = take();
            boolean fits = isNumber(t);
            if (op >= 29 && op <= 31) {
                fits = fits || t == TRUTH;
            } else if (op == 34) {
                fits = t == TRUTH;
            } else if (op == 36 || op == 37) {
                fits = !Program.isReference(t);
            }
            if (!fits) {
                fail(3);
            }
            if (op <= 31 || (op >= 36 && op <= 41)) {
                takeOnly(t);
            }
            if ((op == 36 || op == 37) && !has(t, DROP)) {
                fail(4);
            }
            if (op >= 42) {
                put(op - 40);
            } else {
                put(op <= 33 ? t : TRUTH);
            }
        }

        private void keep(int op, int s) {
            long t = Program.structureType(s);
            long origin = 1L << (48 + s % 15);
            takeOnly(op == 47 ? t : ADDRESS);
            if ((p.flags(function) & RESOURCES) == 0) {
                fail(15);
            }
            if (!has(t, KEY)) {
                fail(4);
            }
            if ((op == 48 || op >= 50) && isLive(origin, op == 50)) {
                fail(6);
            }
            if (op == 48) {
                put(t);
            } else if (op == 49) {
                put(TRUTH);
            } else if (op >= 50) {
                putReference(Program.prefixed(op == 51 ? WRITING : REFERENCE, t), origin, false);
            }
        }

        private void lineUp(int op, int e, int count) {
            long t = p.elementType(e);
            long vector = Program.prefixed(VECTOR, t);
            if (op == 52) {
                for (int k = 0; k < count; k++) {
                    takeOnly(t);
                }
                put(vector);
                return;
            }
            if (op == 59) {
                takeOnly(Program.prefixed(VECTOR, BYTE));
                put(Program.prefixed(VECTOR, BYTE));
                return;
            }
            if (op == 54 || op == 55 || op == 58) {
                takeOnly(LONG);
            }
            if (op == 58) {
                takeOnly(LONG);
            } else if (op == 56) {
                takeOnly(t);
            }
            takeReferenceTo(vector, op >= 55);
            if (op >= 56 && !isSole(takenOrigins)) {
                fail(6);
            }
            if (op == 53) {
                put(LONG);
            } else if (op == 57) {
                put(t);
            } else if (op <= 55) {
                putReference(Program.prefixed(op == 55 ? WRITING : REFERENCE, t), takenOrigins, true);
            }
        }
    }

    /**
     * The values of one call as trees of nodes; a reference is a node that names another. Node 0 stands
     * for what lacks, and stays empty. Kinds are looked at before a half is taken for a node's number.
     */
    private static final class Heap {
        // Nearly every node costs gas; beside those there are only arguments and loaded resources.
        private static final int NODES = LIMIT_MOST + 24 * SIZE_MOST + 64;
        private static final int DEPTH_MOST = 40;

        final byte[] kind = new byte[NODES];
        // A number's halves; a vector's or structure's LAST child and how many it has: what comes
        // and goes at a vector's end does so at the head of a chain then.
        final long[] low = new long[NODES];
        final long[] high = new long[NODES];
        final int[] next = new int[NODES];
        private int used;
        private int cursor;
        int slips;

        void clear() {
            used = 1;
        }

        int make(int k, long upper, long lower) {
            if (used < 1 || used >= NODES) {
                slips++;
                return 0;
            }
            kind[used] = (byte) k;
            high[used] = upper;
            low[used] = lower;
            next[used] = 0;
            return used++;
        }

        private static boolean holdsOthers(int k) {
            return k == STRUCTURE || k == VECTOR;
        }

        void prepend(int node, int child) {
            if (child == 0 || (kind[node] != STRUCTURE && kind[node] != VECTOR)) {
                slips++;
                return;
            }
            next[child] = (int) low[node];
            low[node] = child;
            high[node]++;
        }

        /** Takes the last child away. */
        int detach(int node) {
            if (!holdsOthers(kind[node]) || high[node] <= 0 || low[node] == 0) {
                slips++;
                return 0;
            }
            int child = (int) low[node];
            low[node] = next[child];
            high[node]--;
            next[child] = 0;
            return child;
        }

        int child(int node, long i) {
            if (!holdsOthers(kind[node]) || i < 0 || i >= high[node]) {
                slips++;
                return 0;
            }
            int c = (int) low[node];
            for (long k = high[node] - 1; k > i && c != 0; k--) {
                c = next[c];
            }
            return c;
        }

        /** What node to held becomes what node from held; where it hangs stays. */
        void assign(int to, int from) {
            if (to == 0) {
                return;
            }
            kind[to] = kind[from];
            low[to] = low[from];
            high[to] = high[from];
        }

        void swap(int a, int b) {
            if (b == 0) {
                return;
            }
            byte k = kind[a];
            long lower = low[a];
            long upper = high[a];
            assign(a, b);
            kind[b] = k;
            low[b] = lower;
            high[b] = upper;
        }

        int sizeOf(int node) {
            return sizeAt(node, 0);
        }

        int copyOf(int node) {
            return copyAt(node, 0);
        }

        boolean areAlike(int a, int b) {
            return alikeAt(a, b, 0);
        }

        private int sizeAt(int node, int depth) {
            if (kind[node] == COIN) {
                return 2;
            }
            int size = 1;
            if (holdsOthers(kind[node]) && depth < DEPTH_MOST) {
                int c = (int) low[node];
                // Nobody can pay for more, so there is no need to know how much more.
                for (long k = 0; k < high[node] && c != 0 && size <= LIMIT_MOST; k++) {
                    size += sizeAt(c, depth + 1);
                    c = next[c];
                }
            }
            return size;
        }

        private int copyAt(int node, int depth) {
            int made = make(kind[node], high[node], low[node]);
            if (made == 0 || !holdsOthers(kind[node]) || depth >= DEPTH_MOST) {
                return made;
            }
            int c = (int) low[node];
            int last = 0;
            low[made] = 0;
            for (long k = 0; k < high[node] && c != 0; k++) {
                int d = copyAt(c, depth + 1);
                if (last == 0) {
                    low[made] = d;
                } else {
                    next[last] = d;
                }
                last = d;
                c = next[c];
            }
            return made;
        }

        private boolean alikeAt(int a, int b, int depth) {
            if (kind[a] != kind[b] || high[a] != high[b]) {
                return false;
            }
            if (!holdsOthers(kind[a])) {
                return low[a] == low[b];
            }
            int c = (int) low[a];
            int d = (int) low[b];
            for (long k = 0; k < high[a] && depth < DEPTH_MOST && c != 0 && d != 0; k++) {
                if (!alikeAt(c, d, depth + 1)) {
                    return false;
                }
                c = next[c];
                d = next[d];
            }
            return true;
        }

        /** Writes a value into a slot of the state, each node before its children: how many. */
        int store(int node, State state, int slot) {
            return storeNode(node, state, slot * SIZE_MOST, 0) - slot * SIZE_MOST;
        }

        private int storeNode(int node, State state, int to, int depth) {
            if (to >= state.nodeKind.length || depth > DEPTH_MOST) {
                slips++;
                return to;
            }
            boolean inner = holdsOthers(kind[node]);
            state.nodeKind[to] = kind[node];
            state.nodeHigh[to] = high[node];
            state.nodeLow[to] = inner ? 0 : low[node];
            int end = to + 1;
            for (int i = 0; inner && i < high[node]; i++) {
                end = storeNode(child(node, i), state, end, depth + 1);
            }
            return end;
        }

        int load(State state, int slot) {
            cursor = slot * SIZE_MOST;
            return loadNode(state, 0);
        }

        private int loadNode(State state, int depth) {
            if (cursor >= state.nodeKind.length || depth > DEPTH_MOST) {
                slips++;
                return 0;
            }
            int k = state.nodeKind[cursor];
            long upper = state.nodeHigh[cursor];
            boolean inner = holdsOthers(k);
            int node = make(k, inner ? 0 : upper, state.nodeLow[cursor]);
            cursor++;
            for (int i = 0; inner && i < upper; i++) {
                prepend(node, loadNode(state, depth + 1));
            }
            return node;
        }
    }

    /** Numbers of 128 bits without sign, as two halves. */
    private static final class Wide {
        long high;
        long low;
        boolean beyond;
        private long restHigh;
        private long restLow;

        static boolean below(long a, long b) {
            return (a ^ 1L << 63) < (b ^ 1L << 63);
        }

        static int compare(long ah, long al, long bh, long bl) {
            if (ah != bh) {
                return below(ah, bh) ? -1 : 1;
            }
            return al == bl ? 0 : below(al, bl) ? -1 : 1;
        }

        void set(long h, long l) {
            high = h;
            low = l;
            beyond = false;
        }

        void add(long bh, long bl) {
            long lower = low + bl;
            long carry = below(lower, bl) ? 1 : 0;
            long part = high + bh;
            long upper = part + carry;
            beyond = below(part, bh) || below(upper, carry);
            high = upper;
            low = lower;
        }

        void subtract(long bh, long bl) {
            beyond = compare(high, low, bh, bl) < 0;
            high = high - bh - (below(low, bl) ? 1 : 0);
            low -= bl;
        }

        void multiply(long bh, long bl) {
            boolean over = high != 0 && bh != 0;
            long ah = high;
            long al = low;
            long cross = 0;
            // At most one of the two halves counts: with both, the product is beyond anyway.
            if (ah != 0) {
                over = over || upperProduct(ah, bl) != 0;
                cross = ah * bl;
            } else if (bh != 0) {
                over = over || upperProduct(al, bh) != 0;
                cross = al * bh;
            }
            long upper = upperProduct(al, bl);
            low = al * bl;
            high = upper + cross;
            beyond = over || below(high, cross);
        }

        private static long upperProduct(long a, long b) {
            long mask = 0xffffffffL;
            long a1 = a >>> 32;
            long a0 = a & mask;
            long b1 = b >>> 32;
            long b0 = b & mask;
            long middle = a1 * b0 + (a0 * b0 >>> 32);
            long other = a0 * b1 + (middle & mask);
            return a1 * b1 + (middle >>> 32) + (other >>> 32);
        }

        /** Long division, bit by bit: the quotient, or the rest. */
        void divide(long bh, long bl, boolean rest) {
            beyond = bh == 0 && bl == 0;
            restHigh = 0;
            restLow = 0;
            for (int i = 0; i < 128 && !beyond; i++) {
                boolean lost = restHigh < 0;
                restHigh = restHigh << 1 | restLow >>> 63;
                restLow = restLow << 1 | high >>> 63;
                high = high << 1 | low >>> 63;
                low <<= 1;
                if (lost || compare(restHigh, restLow, bh, bl) >= 0) {
                    restHigh = restHigh - bh - (below(restLow, bl) ? 1 : 0);
                    restLow -= bl;
                    low |= 1;
                }
            }
            if (rest) {
                high = restHigh;
                low = restLow;
            }
        }

        void shiftUp(int by) {
            if (by >= 64) {
                high = low << (by - 64);
                low = 0;
            } else if (by > 0) {
                high = high << by | low >>> (64 - by);
                low <<= by;
            }
        }

        void shiftDown(int by) {
            if (by >= 64) {
                low = high >>> (by - 64);
                high = 0;
            } else if (by > 0) {
                low = low >>> by | high << (64 - by);
                high >>>= by;
            }
        }

        static int bitsOf(int kind) {
            return kind == BYTE ? 8 : kind == LONG ? 64 : 128;
        }

        boolean fits(int kind) {
            if (beyond) {
                return false;
            }
            return kind == WIDE || (high == 0 && (kind == LONG || low >>> 8 == 0));
        }

        void cut(int kind) {
            if (kind != WIDE) {
                high = 0;
            }
            if (kind == BYTE) {
                low &= 255;
            }
        }
    }

    /** The digest of a row of bytes that come one by one. */
    private static final class Digest {
        private static final int[] FIRST = {
            0x6a09e667, 0xbb67ae85, 0x3c6ef372, 0xa54ff53a,
            0x510e527f, 0x9b05688c, 0x1f83d9ab, 0x5be0cd19};
        private static final int[] K = {
            0x428a2f98, 0x71374491, 0xb5c0fbcf, 0xe9b5dba5, 0x3956c25b, 0x59f111f1, 0x923f82a4, 0xab1c5ed5,
            0xd807aa98, 0x12835b01, 0x243185be, 0x550c7dc3, 0x72be5d74, 0x80deb1fe, 0x9bdc06a7, 0xc19bf174,
            0xe49b69c1, 0xefbe4786, 0x0fc19dc6, 0x240ca1cc, 0x2de92c6f, 0x4a7484aa, 0x5cb0a9dc, 0x76f988da,
            0x983e5152, 0xa831c66d, 0xb00327c8, 0xbf597fc7, 0xc6e00bf3, 0xd5a79147, 0x06ca6351, 0x14292967,
            0x27b70a85, 0x2e1b2138, 0x4d2c6dfc, 0x53380d13, 0x650a7354, 0x766a0abb, 0x81c2c92e, 0x92722c85,
            0xa2bfe8a1, 0xa81a664b, 0xc24b8b70, 0xc76c51a3, 0xd192e819, 0xd6990624, 0xf40e3585, 0x106aa070,
            0x19a4c116, 0x1e376c08, 0x2748774c, 0x34b0bcb5, 0x391c0cb3, 0x4ed8aa4a, 0x5b9cca4f, 0x682e6ff3,
            0x748f82ee, 0x78a5636f, 0x84c87814, 0x8cc70208, 0x90befffa, 0xa4506ceb, 0xbef9a3f7, 0xc67178f2};

        private final int[] words = new int[8];
        private final int[] w = new int[64];
        private int filled;
        private long total;

        void start() {
            System.arraycopy(FIRST, 0, words, 0, 8);
            filled = 0;
            total = 0;
        }

        void put(int b) {
            int word = filled >> 2;
            w[word] = w[word] << 8 | b & 255;
            filled++;
            total++;
            if (filled == 64) {
                filled = 0;
                mix();
            }
        }

        void putLong(long n) {
            for (int shift = 56; shift >= 0; shift -= 8) {
                put((int) (n >>> shift));
            }
        }

        void putLongs(long[] row, int from) {
            for (int i = 0; i < 4; i++) {
                putLong(row[from + i]);
            }
        }

        void finish() {
            long bits = total * 8;
            put(128);
            for (int i = 0; i < 64 && filled != 56; i++) {
                put(0);
            }
            for (int shift = 56; shift >= 0; shift -= 8) {
                put((int) (bits >>> shift));
            }
        }

        long part(int i) {
            return (long) words[2 * i] << 32 | words[2 * i + 1] & 0xffffffffL;
        }

        void copyTo(long[] row, int from) {
            for (int i = 0; i < 4; i++) {
                row[from + i] = part(i);
            }
        }

        private void mix() {
            for (int t = 16; t < 64; t++) {
                int x = w[t - 15];
                int y = w[t - 2];
                int s0 = (x >>> 7 | x << 25) ^ (x >>> 18 | x << 14) ^ x >>> 3;
                int s1 = (y >>> 17 | y << 15) ^ (y >>> 19 | y << 13) ^ y >>> 10;
                w[t] = w[t - 16] + s0 + w[t - 7] + s1;
            }
            int a = words[0];
            int b = words[1];
            int c = words[2];
            int d = words[3];
            int e = words[4];
            int f = words[5];
            int g = words[6];
            int h = words[7];
            for (int t = 0; t < 64; t++) {
                int x = (e >>> 6 | e << 26) ^ (e >>> 11 | e << 21) ^ (e >>> 25 | e << 7);
                x += h + (e & f ^ ~e & g) + K[t] + w[t];
                int y = (a >>> 2 | a << 30) ^ (a >>> 13 | a << 19) ^ (a >>> 22 | a << 10);
                y += a & b ^ a & c ^ b & c;
                h = g;
                g = f;
                f = e;
                e = d + x;
                d = c;
                c = b;
                b = a;
                a = x + y;
            }
            words[0] += a;
            words[1] += b;
            words[2] += c;
            words[3] += d;
            words[4] += e;
            words[5] += f;
            words[6] += g;
            words[7] += h;
        }
    }

    /** Accounts, modules and resources as they stand between transactions. */
    private static final class State {
        final long[] accountAddress = new long[PLACES_MOST];
        final long[] balance = new long[PLACES_MOST];
        final long[] sequence = new long[PLACES_MOST];
        int accountCount;
        // Module 0 stands first; the one behind the last serves to read the next one into.
        final Program[] programs = new Program[MODULES_MOST + 1];
        int moduleCount;
        final long[] resourceAddress = new long[PLACES_MOST];
        final int[] resourceModule = new int[PLACES_MOST];
        final int[] resourceStructure = new int[PLACES_MOST];
        // How many nodes lie in a slot's part of the rows behind; 0 when the slot is free.
        final int[] nodeCount = new int[PLACES_MOST];
        int resourceCount;
        final byte[] nodeKind = new byte[PLACES_MOST * SIZE_MOST];
        final long[] nodeHigh = new long[PLACES_MOST * SIZE_MOST];
        final long[] nodeLow = new long[PLACES_MOST * SIZE_MOST];
        long minted;
        long burned;

        State() {
            for (int i = 0; i <= MODULES_MOST; i++) {
                programs[i] = new Program();
            }
        }

        int placeCount() {
            return accountCount + moduleCount + resourceCount;
        }

        int findAccount(long address) {
            for (int a = 0; a < accountCount; a++) {
                if (accountAddress[a] == address) {
                    return a;
                }
            }
            return -1;
        }

        /** Only for those who made sure that a place is free. */
        int openAccount(long address) {
            int a = Math.min(accountCount, PLACES_MOST - 1);
            accountAddress[a] = address;
            balance[a] = 0;
            sequence[a] = 0;
            accountCount = a + 1;
            return a;
        }

        void charge(Transaction t) {
            int a = findAccount(t.sender);
            if (a >= 0) {
                balance[a] -= t.limit;
                sequence[a]++;
            }
        }

        void settle(Transaction t) {
            int a = findAccount(t.sender);
            if (a >= 0) {
                balance[a] += t.limit - t.gas;
                burned += t.gas;
            }
        }

        Program findProgram(int number) {
            for (int i = 0; i <= moduleCount; i++) {
                if (programs[i].number == number) {
                    return programs[i];
                }
            }
            return null;
        }

        int findResource(long address, int module, int structure) {
            for (int r = 0; r < PLACES_MOST; r++) {
                if (nodeCount[r] > 0 && resourceAddress[r] == address
                        && resourceModule[r] == module && resourceStructure[r] == structure) {
                    return r;
                }
            }
            return -1;
        }

        private int freeSlot() {
            for (int r = 0; r < PLACES_MOST; r++) {
                if (nodeCount[r] == 0) {
                    return r;
                }
            }
            return -1;
        }

        /** The slot of a resource, a new one if it has none yet. */
        int slotFor(long address, int module, int structure) {
            int r = findResource(address, module, structure);
            if (r >= 0) {
                return r;
            }
            r = freeSlot();
            if (r >= 0) {
                resourceAddress[r] = address;
                resourceModule[r] = module;
                resourceStructure[r] = structure;
                resourceCount++;
            }
            return r;
        }

        void removeResource(long address, int module, int structure) {
            int r = findResource(address, module, structure);
            if (r >= 0) {
                nodeCount[r] = 0;
                resourceCount--;
            }
        }

        long allBalances() {
            long sum = 0;
            for (int a = 0; a < accountCount; a++) {
                sum += balance[a];
            }
            return sum;
        }

        long storedCoins() {
            long sum = 0;
            for (int r = 0; r < PLACES_MOST; r++) {
                for (int i = r * SIZE_MOST; i < r * SIZE_MOST + nodeCount[r]; i++) {
                    sum += nodeKind[i] == COIN ? nodeLow[i] : 0;
                }
            }
            return sum;
        }

        /** The BYTES of a resource; nodes lie before their children, just as the bytes do. */
        int writeBytes(int slot, byte[] out) {
            int end = 0;
            for (int i = slot * SIZE_MOST; i < slot * SIZE_MOST + nodeCount[slot]; i++) {
                long n = nodeKind[i] == VECTOR ? nodeHigh[i] : nodeLow[i];
                int width = widthOf(nodeKind[i]);
                if (end + width > out.length) {
                    return end;
                }
                for (int b = width - 1; b >= 0; b--) {
                    long half = b >= 8 ? nodeHigh[i] : n;
                    out[end++] = (byte) (half >>> (b % 8 * 8));
                }
            }
            return end;
        }

        private static int widthOf(int kind) {
            switch (kind) {
                case TRUTH:
                case BYTE:
                    return 1;
                case VECTOR:
                    return 2;
                case WIDE:
                    return 16;
                case STRUCTURE:
                    return 0;
                default:
                    return 8;
            }
        }
    }

    /** The root of digests over all places of a state. */
    private static final class Tree {
        private static final int BITS = 256;
        // A place's row: its KEY, then its kind, its address, its module and structure.
        private static final int KEY_ROW = 4;
        private static final int ROW = 7;

        final long[] top = new long[4];
        boolean stale;
        private final Digest digest = new Digest();
        private final long[] rows = new long[PLACES_MOST * ROW];
        private final long[] leaves = new long[PLACES_MOST * 4];
        private final long[] value = new long[4];
        private final int[] order = new int[PLACES_MOST];
        private int count;
        private final byte[] bytes = new byte[SIZE_MOST * 16];
        private final long[] now = new long[4];
        // Left halves that wait for their right ones, each with its level.
        private final long[] waiting = new long[(BITS + 1) * 4];
        private final int[] waitingLevel = new int[BITS + 1];
        private int waitingCount;

        void rebuild(State state) {
            stale = false;
            count = 0;
            gatherAccounts(state);
            gatherModules(state);
            gatherResources(state);
            leaveOutDoubles();
            waitingCount = 0;
            for (int i = 0; i < count; i++) {
                climb(i);
            }
            for (int k = 0; k < 4; k++) {
                top[k] = count == 0 ? 0 : waiting[k];
            }
        }

        private void gatherAccounts(State state) {
            for (int a = 0; a < state.accountCount; a++) {
                digest.start();
                digest.putLong(state.balance[a]);
                digest.putLong(state.sequence[a]);
                keepValue();
                digest.start();
                digest.put(Journal.ACCOUNT);
                digest.putLong(state.accountAddress[a]);
                addPlace(Journal.ACCOUNT, state.accountAddress[a], 0, 0);
            }
        }

        private void gatherModules(State state) {
            for (int i = 1; i <= state.moduleCount; i++) {
                Program p = state.programs[i];
                digest.start();
                for (int k = 0; k < p.length; k++) {
                    digest.put(p.at(k));
                }
                keepValue();
                digest.start();
                digest.put(Journal.MODULE);
                digest.put(p.number >>> 8);
                digest.put(p.number);
                addPlace(Journal.MODULE, 0, p.number, 0);
            }
        }

        private void gatherResources(State state) {
            for (int r = 0; r < PLACES_MOST; r++) {
                if (state.nodeCount[r] == 0) {
                    continue;
                }
                int length = state.writeBytes(r, bytes);
                digest.start();
                for (int k = 0; k < length; k++) {
                    digest.put(bytes[k]);
                }
                keepValue();
                digest.start();
                digest.put(Journal.RESOURCE);
                digest.putLong(state.resourceAddress[r]);
                digest.put(state.resourceModule[r] >>> 8);
                digest.put(state.resourceModule[r]);
                digest.put(state.resourceStructure[r]);
                addPlace(Journal.RESOURCE, state.resourceAddress[r], state.resourceModule[r],
                    state.resourceStructure[r]);
            }
        }

        private void keepValue() {
            digest.finish();
            digest.copyTo(value, 0);
        }

        /** The KEY is what the digest was given; the place comes where its row belongs in order. */
        private void addPlace(int kind, long address, int module, int structure) {
            digest.finish();
            if (count >= PLACES_MOST) {
                return;
            }
            int row = count * ROW;
            digest.copyTo(rows, row);
            rows[row + KEY_ROW] = kind;
            rows[row + KEY_ROW + 1] = address;
            rows[row + KEY_ROW + 2] = (long) module << 8 | structure;
            digest.start();
            digest.put(0);
            digest.putLongs(rows, row);
            digest.putLongs(value, 0);
            digest.finish();
            digest.copyTo(leaves, count * 4);
            int i = count;
            while (i > 0 && isBelow(count, order[i - 1])) {
                order[i] = order[i - 1];
                i--;
            }
            order[i] = count;
            count++;
        }

        private boolean isBelow(int a, int b) {
            for (int k = 0; k < ROW; k++) {
                long x = rows[a * ROW + k];
                long y = rows[b * ROW + k];
                if (x != y) {
                    return Wide.below(x, y);
                }
            }
            return false;
        }

        /** Of places with one KEY just the least one counts, which is the first of them in order. */
        private void leaveOutDoubles() {
            int kept = 0;
            for (int i = 0; i < count; i++) {
                if (kept == 0 || firstDifference(order[kept - 1], order[i]) < BITS) {
                    order[kept] = order[i];
                    kept++;
                }
            }
            count = kept;
        }

        /** The first bit in which two places' KEYS differ; BITS when they have one KEY. */
        private int firstDifference(int a, int b) {
            for (int k = 0; k < KEY_ROW; k++) {
                long differs = rows[a * ROW + k] ^ rows[b * ROW + k];
                for (int bit = 0; bit < 64 && differs != 0; bit++) {
                    if (differs << bit < 0) {
                        return k * 64 + bit;
                    }
                }
            }
            return BITS;
        }

        /** The level at which the KEYS at i and i + 1 in order have parted; 0 when one is missing. */
        private int parting(int i) {
            if (i < 0 || i + 1 >= count) {
                return 0;
            }
            // Doubles are left out, so KEYS part at their last bit at the latest: climb stays within it.
            return Math.min(firstDifference(order[i], order[i + 1]) + 1, BITS);
        }

        /** From the level where key i is alone up to where it meets the next key. */
        private void climb(int i) {
            int row = order[i] * ROW;
            int up = parting(i);
            int level = Math.max(parting(i - 1), up);
            System.arraycopy(leaves, order[i] * 4, now, 0, 4);
            for (; level > up; level--) {
                long bit = rows[row + (level - 1) / 64] >>> (63 - (level - 1) % 64) & 1;
                boolean left = bit != 0 && waitingCount > 0 && waitingLevel[waitingCount - 1] == level;
                digest.start();
                digest.put(1);
                if (bit == 0) {
                    digest.putLongs(now, 0);
                    putNothing();
                } else {
                    if (left) {
                        waitingCount--;
                        digest.putLongs(waiting, waitingCount * 4);
                    } else {
                        putNothing();
                    }
                    digest.putLongs(now, 0);
                }
                digest.finish();
                digest.copyTo(now, 0);
            }
            if (waitingCount <= BITS) {
                System.arraycopy(now, 0, waiting, waitingCount * 4, 4);
                waitingLevel[waitingCount] = up;
                waitingCount++;
            }
        }

        private void putNothing() {
            for (int k = 0; k < 4; k++) {
                digest.putLong(0);
            }
        }
    }

    /** The places that a call asked for, as they are for it: the state learns of them at its end. */
    private static final class Journal {
        static final int ACCOUNT = 1;
        static final int MODULE = 2;
        static final int RESOURCE = 3;
        private static final int ENTRIES_MOST = 24;

        private final State state;
        private final Heap heap;
        private final int[] kind = new int[ENTRIES_MOST];
        private final long[] address = new long[ENTRIES_MOST];
        private final int[] module = new int[ENTRIES_MOST];
        private final int[] structure = new int[ENTRIES_MOST];
        private final boolean[] wasThere = new boolean[ENTRIES_MOST];
        private int count;
        final boolean[] isThere = new boolean[ENTRIES_MOST];
        final long[] balance = new long[ENTRIES_MOST];
        final int[] node = new int[ENTRIES_MOST];

        Journal(State s, Heap h) {
            state = s;
            heap = h;
        }

        void open(Transaction t) {
            count = 0;
            ask(ACCOUNT, t.sender, 0, 0);
            ask(MODULE, 0, t.module, 0);
        }

        /** The number of a place's entry; -1 when it would be one too many. */
        int ask(int k, long a, int m, int s) {
            for (int e = 0; e < count; e++) {
                if (kind[e] == k && address[e] == a && module[e] == m && structure[e] == s) {
                    return e;
                }
            }
            if (count >= ENTRIES_MOST) {
                return -1;
            }
            int e = count++;
            kind[e] = k;
            address[e] = a;
            module[e] = m;
            structure[e] = s;
            balance[e] = 0;
            node[e] = 0;
            int found = 0;
            if (k == ACCOUNT) {
                found = state.findAccount(a);
                balance[e] = found < 0 ? 0 : state.balance[found];
            } else if (k == RESOURCE) {
                found = state.findResource(a, m, s);
                node[e] = found < 0 ? 0 : heap.load(state, found);
            }
            wasThere[e] = found >= 0;
            isThere[e] = found >= 0;
            return e;
        }

        boolean fits() {
            int places = state.placeCount();
            for (int e = 0; e < count; e++) {
                if (kind[e] == RESOURCE && isThere[e] && heap.sizeOf(node[e]) > SIZE_MOST) {
                    return false;
                }
                places += (isThere[e] ? 1 : 0) - (wasThere[e] ? 1 : 0);
            }
            return places <= PLACES_MOST;
        }

        void commit() {
            for (int e = 0; e < count; e++) {
                // What goes makes room for what comes.
                if (kind[e] == RESOURCE && wasThere[e] && !isThere[e]) {
                    state.removeResource(address[e], module[e], structure[e]);
                }
            }
            for (int e = 0; e < count; e++) {
                if (kind[e] == ACCOUNT && isThere[e]) {
                    int a = state.findAccount(address[e]);
                    a = a < 0 ? state.openAccount(address[e]) : a;
                    state.balance[a] = balance[e];
                } else if (kind[e] == RESOURCE && isThere[e]) {
                    storeResource(e);
                }
            }
        }

        private void storeResource(int e) {
            int slot = state.slotFor(address[e], module[e], structure[e]);
            if (slot >= 0) {
                state.nodeCount[slot] = heap.store(node[e], state, slot);
            }
        }
    }

    /** Does calls: frames, gas and errors. */
    private static final class Machine {
        private static final int FRAMES_MOST = 32;
        private static final int LOCALS_MOST = 40;
        private static final int STACK_MOST = 64;
        private static final int VECTOR_MOST = 256;

        private final State state;
        private final Heap heap = new Heap();
        private final Journal journal;
        private final Wide wide = new Wide();
        private final Digest digest = new Digest();
        private final byte[] row = new byte[VECTOR_MOST];
        private final Program[] programs = new Program[FRAMES_MOST];
        private final int[] functions = new int[FRAMES_MOST];
        private final int[] nexts = new int[FRAMES_MOST];
        private final int[] depths = new int[FRAMES_MOST];
        private final int[] locals = new int[FRAMES_MOST * LOCALS_MOST];
        private final int[] stack = new int[FRAMES_MOST * STACK_MOST];
        private int top;
        private Transaction t;
        private int gas;
        private boolean running;
        private int outcome;
        private long code;

        Machine(State s) {
            state = s;
            journal = new Journal(s, heap);
        }

        int slipCount() {
            return heap.slips;
        }

        void run(Transaction transaction) {
            t = transaction;
            gas = 0;
            running = true;
            outcome = DONE;
            code = 0;
            heap.clear();
            journal.open(t);
            top = -1;
            pushFrame(state.findProgram(t.module), t.function);
            for (int k = 0; k < t.argumentCount; k++) {
                locals[k] = heap.make(t.argumentType[k], t.argumentHigh[k], t.argumentLow[k]);
            }
            // Each step costs gas, so the limit ends it.
            for (int n = 0; n <= LIMIT_MOST && running; n++) {
                int before = heap.slips;
                step();
                // An instruction slips once, however much is wrong with it.
                heap.slips = Math.min(heap.slips, before + 1);
            }
            if (outcome == DONE && !journal.fits()) {
                end(ERROR, 4);
            }
            if (outcome == DONE) {
                for (int k = 0; k < depths[0]; k++) {
                    int v = stack[k];
                    t.addResult(heap.kind[v], heap.high[v], heap.low[v]);
                }
                journal.commit();
            }
            t.end(outcome, code, gas);
        }

        private void end(int how, long why) {
            running = false;
            outcome = how;
            code = why;
        }

        private boolean pay(int cost) {
            if (cost > t.limit - gas) {
                gas = t.limit;
                end(ERROR, 5);
                return false;
            }
            gas += cost;
            return true;
        }

        private void pushFrame(Program p, int f) {
            top++;
            programs[top] = p;
            functions[top] = f;
            nexts[top] = 0;
            depths[top] = 0;
            for (int k = 0; k < LOCALS_MOST; k++) {
                locals[top * LOCALS_MOST + k] = 0;
            }
        }

        private void push(int node) {
            if (depths[top] >= STACK_MOST) {
                heap.slips++;
                return;
            }
            stack[top * STACK_MOST + depths[top]] = node;
            depths[top]++;
        }

        private int pop() {
            if (depths[top] == 0) {
                heap.slips++;
                return 0;
            }
            depths[top]--;
            return stack[top * STACK_MOST + depths[top]];
        }

        private int popOf(int kind) {
            int v = pop();
            if (heap.kind[v] != kind) {
                heap.slips++;
            }
            return v;
        }

        /** What lies so far below the topmost one. */
        private int peek(int below) {
            int i = depths[top] - 1 - below;
            if (i < 0) {
                heap.slips++;
                return 0;
            }
            return stack[top * STACK_MOST + i];
        }

        private void pushNumber(int kind, long high, long low) {
            push(heap.make(kind, high, low));
        }

        private int target(int reference) {
            if (heap.kind[reference] != REFERENCE || heap.low[reference] == 0) {
                heap.slips++;
                return 0;
            }
            return (int) heap.low[reference];
        }

        private void step() {
            Program p = programs[top];
            int i = nexts[top];
            if (p == null || i >= p.instructions(functions[top])) {
                heap.slips++;
                end(ERROR, 4);
                return;
            }
            int where = p.instructionPlace(functions[top], i);
            int op = p.at(where);
            int a = p.at(where + 1);
            nexts[top] = i + 1;
            if (!pay(1)) {
                return;
            }
            if (op <= 4 || op == 45) {
                steer(op, (int) p.numberAt(where + 1, 2));
            } else if (op <= 10 || op == 35 || op == 46) {
                set(op, p, where + 1);
            } else if (op <= 15) {
                useLocal(op, top * LOCALS_MOST + Math.min(a, LOCALS_MOST - 1));
            } else if (op <= 20) {
                refer(op, p.at(where + 2));
            } else if (op == 21) {
                gather(STRUCTURE, p.fieldCount(a));
            } else if (op == 22) {
                scatter(p.fieldCount(a));
            } else if (op == 23) {
                int home = p.functionColumn(a, Program.FUNCTION_HOME);
                int number = p.functionColumn(a, Program.FUNCTION_NUMBER);
                if (home == 0) {
                    useCoin(number);
                } else {
                    enter(home, number);
                }
            } else if (op <= 44) {
                reckon(op);
            } else if (op <= 51) {
                keep(op, p.number, a);
            } else if (op == 59) {
                hash();
            } else {
                lineUp(op, p.at(where + 2));
            }
        }

        private void steer(int op, int to) {
            if (op == 0) {
                pop();
            } else if (op == 1) {
                giveBack();
            } else if (op == 45) {
                end(ABORTED, heap.low[popOf(LONG)]);
            } else if (op == 2 || (heap.low[popOf(TRUTH)] == 1) == (op == 3)) {
                nexts[top] = to;
            }
        }

        private void giveBack() {
            Program p = programs[top];
            int f = functions[top];
            if (depths[top] != p.gives(f)) {
                heap.slips++;
            }
            for (int k = 0; k < p.localCount(f); k++) {
                if (locals[top * LOCALS_MOST + k] != 0 && (p.abilities(p.localType(f, k)) & DROP) == 0) {
                    heap.slips++;
                }
            }
            if (top == 0) {
                running = false;
                return;
            }
            int count = depths[top];
            int from = top * STACK_MOST;
            top--;
            for (int k = 0; k < count; k++) {
                push(stack[from + k]);
            }
        }

        private void set(int op, Program p, int where) {
            switch (op) {
                case 5:
                    pushNumber(BYTE, 0, p.at(where));
                    break;
                case 6:
                    pushNumber(LONG, 0, p.numberAt(where, 8));
                    break;
                case 7:
                    pushNumber(WIDE, p.numberAt(where, 8), p.numberAt(where + 8, 8));
                    break;
                case 8:
                case 9:
                    pushNumber(TRUTH, 0, 9 - op);
                    break;
                case 10:
                    pushNumber(ADDRESS, 0, p.numberAt(where, 8));
                    break;
                case 46:
                    pushNumber(ADDRESS, 0, t.sender);
                    break;
                default:
                    break;
            }
        }

        private void useLocal(int op, int k) {
            if (op == 13) {
                locals[k] = pop();
                return;
            }
            int v = locals[k];
            if (v == 0) {
                heap.slips++;
            }
            if (op == 11) {
                pushCopy(v);
            } else if (op == 12) {
                locals[k] = 0;
                push(v);
            } else {
                pushNumber(REFERENCE, 0, v);
            }
        }

        private void pushCopy(int v) {
            if (pay(heap.sizeOf(v))) {
                push(heap.copyOf(v));
            }
        }

        private void refer(int op, int field) {
            if (op == 20) {
                return;
            }
            int reference = pop();
            int to = target(reference);
            if (op <= 17) {
                heap.low[reference] = heap.child(to, field);
                push(reference);
            } else if (op == 18) {
                pushCopy(to);
            } else {
                heap.assign(to, pop());
            }
        }

        /** The topmost values become the parts of one. */
        private void gather(int kind, int count) {
            int first = depths[top] - count;
            if (first < 0) {
                heap.slips++;
                return;
            }
            int whole = heap.make(kind, 0, 0);
            for (int k = first; k < first + count; k++) {
                heap.prepend(whole, stack[top * STACK_MOST + k]);
            }
            depths[top] = first;
            push(whole);
        }

        private void scatter(int count) {
            int whole = popOf(STRUCTURE);
            int first = depths[top];
            if (first + count > STACK_MOST || heap.high[whole] != count) {
                heap.slips++;
                return;
            }
            for (int k = count - 1; k >= 0; k--) {
                stack[top * STACK_MOST + first + k] = heap.detach(whole);
            }
            depths[top] = first + count;
        }

        private void enter(int home, int f) {
            Program p = state.findProgram(home);
            // A function's own module was asked for when it was entered, so this counts others only.
            if (p == null || top + 1 >= FRAMES_MOST || journal.ask(Journal.MODULE, 0, home, 0) < 0) {
                end(ERROR, 4);
                return;
            }
            if (!pay(5)) {
                return;
            }
            if (p.takes(f) > depths[top]) {
                heap.slips++;
            }
            int count = Math.min(p.takes(f), depths[top]);
            int from = top * STACK_MOST + depths[top] - count;
            depths[top] -= count;
            pushFrame(p, f);
            System.arraycopy(stack, from, locals, top * LOCALS_MOST, count);
        }

        private void useCoin(int f) {
            int entry = 0;
            if (f == 1 || f == 5) {
                entry = journal.ask(Journal.ACCOUNT, heap.low[peek(f == 1 ? 1 : 0)], 0, 0);
            }
            if (entry < 0) {
                end(ERROR, 4);
                return;
            }
            if (!pay(5)) {
                return;
            }
            long n = heap.low[peek(0)];
            if (f == 0) {
                withdraw(n);
            } else if (f == 1) {
                popOf(COIN);
                popOf(ADDRESS);
                journal.isThere[entry] = true;
                journal.balance[entry] += n;
            } else if (f == 2) {
                pushNumber(LONG, 0, heap.low[target(pop())]);
            } else if (f == 3) {
                popOf(COIN);
                pushNumber(COIN, 0, heap.low[popOf(COIN)] + n);
            } else if (f == 4) {
                split(n);
            } else {
                popOf(ADDRESS);
                pushNumber(LONG, 0, journal.balance[entry]);
            }
        }

        // The sender's account is the first place that a call asks for.
        private void withdraw(long n) {
            if (Wide.below(journal.balance[0], n)) {
                end(ABORTED, 1);
                return;
            }
            popOf(LONG);
            journal.balance[0] -= n;
            pushNumber(COIN, 0, n);
        }

        private void split(long n) {
            popOf(LONG);
            long all = heap.low[popOf(COIN)];
            if (Wide.below(all, n)) {
                end(ABORTED, 2);
                return;
            }
            pushNumber(COIN, 0, all - n);
            pushNumber(COIN, 0, n);
        }

        private void reckon(int op) {
            if (op == 34) {
                pushNumber(TRUTH, 0, 1 - heap.low[popOf(TRUTH)]);
                return;
            }
            int b = op == 32 || op == 33 ? popOf(BYTE) : pop();
            if (op >= 42) {
                wide.set(heap.high[b], heap.low[b]);
                pushWide(op - 40);
                return;
            }
            int a = op == 32 || op == 33 ? pop() : popOf(heap.kind[b]);
            wide.set(heap.high[a], heap.low[a]);
            if (op >= 36) {
                compare(op, a, b);
            } else if (op >= 32) {
                shift(op == 32, heap.low[b], heap.kind[a]);
            } else {
                combine(op, heap.high[b], heap.low[b]);
                pushWide(heap.kind[a]);
            }
        }

        private void pushWide(int kind) {
            if (kind < TRUTH || kind > WIDE) {
                heap.slips++;
                return;
            }
            if (kind != TRUTH && !wide.fits(kind)) {
                end(ERROR, 1);
                return;
            }
            pushNumber(kind, wide.high, wide.low);
        }

        private void combine(int op, long high, long low) {
            switch (op) {
                case 24:
                    wide.add(high, low);
                    break;
                case 25:
                    wide.subtract(high, low);
                    break;
                case 26:
                    wide.multiply(high, low);
                    break;
                case 27:
                case 28:
                    wide.divide(high, low, op == 28);
                    break;
                case 29:
                    wide.set(wide.high & high, wide.low & low);
                    break;
                case 30:
                    wide.set(wide.high | high, wide.low | low);
                    break;
                default:
                    wide.set(wide.high ^ high, wide.low ^ low);
                    break;
            }
        }

        private void shift(boolean up, long by, int kind) {
            if (by >= Wide.bitsOf(kind)) {
                end(ERROR, 1);
                return;
            }
            if (up) {
                wide.shiftUp((int) by);
                wide.cut(kind);
            } else {
                wide.shiftDown((int) by);
            }
            pushWide(kind);
        }

        private void compare(int op, int a, int b) {
            boolean so;
            if (op <= 37) {
                if (!pay(heap.sizeOf(a) + heap.sizeOf(b))) {
                    return;
                }
                so = heap.areAlike(a, b) == (op == 36);
            } else {
                int order = Wide.compare(heap.high[a], heap.low[a], heap.high[b], heap.low[b]);
                so = op == 38 ? order < 0 : op == 39 ? order <= 0 : op == 40 ? order > 0 : order >= 0;
            }
            pushNumber(TRUTH, 0, so ? 1 : 0);
        }

        private void keep(int op, int module, int structure) {
            int v = popOf(op == 47 ? STRUCTURE : ADDRESS);
            long address = op == 47 ? t.sender : heap.low[v];
            int e = journal.ask(Journal.RESOURCE, address, module, structure);
            if (e < 0) {
                end(ERROR, 4);
                return;
            }
            if (op != 49 && journal.isThere[e] == (op == 47)) {
                end(ERROR, 3);
                return;
            }
            if (!pay(op == 47 ? 10 + heap.sizeOf(v) : 10)) {
                return;
            }
            if (op == 47) {
                journal.isThere[e] = true;
                journal.node[e] = v;
            } else if (op == 48) {
                journal.isThere[e] = false;
                push(journal.node[e]);
            } else if (op == 49) {
                pushNumber(TRUTH, 0, journal.isThere[e] ? 1 : 0);
            } else {
                pushNumber(REFERENCE, 0, journal.node[e]);
            }
        }

        private void lineUp(int op, int count) {
            if (op == 52) {
                if (pay(count)) {
                    gather(VECTOR, count);
                }
                return;
            }
            int above = op == 53 || op == 57 ? 0 : op == 58 ? 2 : 1;
            int reference = peek(above);
            int vector = target(reference);
            if (heap.kind[vector] != VECTOR) {
                heap.slips++;
            }
            long length = heap.high[vector];
            if (op == 53) {
                pop();
                pushNumber(LONG, 0, length);
            } else if (op == 56) {
                append(vector, length);
            } else if (op == 57) {
                removeLast(vector, length);
            } else if (op == 58) {
                exchange(vector, length);
            } else {
                borrowElement(vector, length);
            }
        }

        private void append(int vector, long length) {
            if (length >= VECTOR_MOST) {
                end(ERROR, 4);
                return;
            }
            heap.prepend(vector, pop());
            pop();
        }

        private void removeLast(int vector, long length) {
            if (length == 0) {
                end(ERROR, 2);
                return;
            }
            pop();
            push(heap.detach(vector));
        }

        private void exchange(int vector, long length) {
            long i = heap.low[popOf(LONG)];
            long j = heap.low[popOf(LONG)];
            if (!Wide.below(i, length) || !Wide.below(j, length)) {
                end(ERROR, 2);
                return;
            }
            pop();
            heap.swap(heap.child(vector, i), heap.child(vector, j));
        }

        private void borrowElement(int vector, long length) {
            long i = heap.low[popOf(LONG)];
            if (!Wide.below(i, length)) {
                end(ERROR, 2);
                return;
            }
            int reference = pop();
            heap.low[reference] = heap.child(vector, i);
            push(reference);
        }

        private void hash() {
            int vector = pop();
            if (heap.kind[vector] != VECTOR) {
                heap.slips++;
                return;
            }
            int length = (int) Math.min(heap.high[vector], VECTOR_MOST);
            if (!pay(32 + length)) {
                return;
            }
            int c = (int) heap.low[vector];
            for (int k = length - 1; k >= 0; k--) {
                row[k] = (byte) heap.low[c];
                c = heap.next[c];
            }
            digest.start();
            for (int k = 0; k < length; k++) {
                digest.put(row[k]);
            }
            digest.finish();
            int made = heap.make(VECTOR, 0, 0);
            for (int k = 0; k < 32; k++) {
                long b = digest.part(k / 8) >>> (56 - k % 8 * 8) & 255;
                heap.prepend(made, heap.make(BYTE, 0, b));
            }
            push(made);
        }
    }
}
