/** The end of a compiler for twenty instructions: liveness, clashes, register allocation, and a machine. */
public final class ColourDesk {
    public static final int OK = 0, LONG = 1, NONE = -1, MEMORY = -2;

    private static final int LI = 0, ADD = 1, SUB = 2, MUL = 3, LESS = 4, MOVE = 5;
    private static final int JUMP = 6, ZERO = 7, OUT = 8, IN = 9, STOP = 10;

    private static final int MOST_INSTRUCTIONS = 20;
    private static final int TEMPORARIES = 8;
    private static final int SETS = 256;
    private static final int EVERY_TEMPORARY = 255;
    private static final int MOST_REGISTERS = 4;
    private static final int CELLS = 12;
    private static final int MOST_INPUTS = 8;
    private static final int KEPT_OUTPUTS = 30;
    private static final int MOST_STEPS = 200;
    private static final int LOOP_WEIGHT = 10;
    private static final int CHOICES = 65536;
    private static final int TOP_SHIFT = 14;

    private final int[] ops = new int[MOST_INSTRUCTIONS];
    private final int[] targets = new int[MOST_INSTRUCTIONS];
    private final int[] firsts = new int[MOST_INSTRUCTIONS];
    private final int[] seconds = new int[MOST_INSTRUCTIONS];
    private int length = 0;
    private int registerCount;

    // What follows from the code and the registers; it holds only while settled is true.
    private boolean settled = false;
    private final int[] leads = new int[MOST_INSTRUCTIONS];
    private final int[] reaches = new int[MOST_INSTRUCTIONS];
    private final int[] before = new int[MOST_INSTRUCTIONS];
    private final int[] behindOf = new int[MOST_INSTRUCTIONS];
    private final int[] clashSets = new int[TEMPORARIES];
    private final int[] costs = new int[TEMPORARIES];
    private final int[] needs = new int[SETS];
    private final boolean[] free = new boolean[SETS];
    private int moves = 0;
    private int memorySet = 0;
    private int memoryCost = 0;
    private int savedMoves = 0;
    // Two bits for each temporary, 0's highest, so that the order of numbers is the order of allocations.
    private int choice = 0;

    private final int[] inputs = new int[MOST_INPUTS];
    private int inputCount = 0;

    private final int[] cells = new int[CELLS];
    private final int[] outputs = new int[KEPT_OUTPUTS];
    private int at = 0;
    private int outputCount = 0;
    private int steps = 0;
    private int took = 0;
    private int taken = 0;

    public ColourDesk() {
        registerCount = 2;
    }

    public int put(int op, int d, int a, int b) {
        if (length >= MOST_INSTRUCTIONS || op < LI || op > STOP || !operandsFit(op, d, a, b)) {
            return NONE;
        }
        ops[length] = op;
        targets[length] = d;
        firsts[length] = a;
        seconds[length] = b;
        length++;
        settled = false;
        return length - 1;
    }

    public int wipe() {
        int removed = length;
        length = 0;
        settled = false;
        return removed;
    }

    public boolean registers(int k) {
        if (k < 1 || k > MOST_REGISTERS) {
            return false;
        }
        registerCount = k;
        settled = false;
        return true;
    }

    public int alive(int i, boolean behind) {
        if (i < 0 || i >= length) {
            return NONE;
        }
        settle();
        return behind ? behindOf[i] : before[i];
    }

    public int clashes(int t) {
        if (!isTemporary(t)) {
            return NONE;
        }
        settle();
        return clashSets[t];
    }

    public int cost(int t) {
        if (!isTemporary(t)) {
            return NONE;
        }
        settle();
        return costs[t];
    }

    public int least() {
        settle();
        return needs[EVERY_TEMPORARY];
    }

    public int place(int t) {
        if (!isTemporary(t)) {
            return NONE;
        }
        settle();
        return has(memorySet, t) ? MEMORY : registerIn(choice, t);
    }

    public int best(int what) {
        settle();
        switch (what) {
            case 0:
                return memoryCost;
            case 1:
                return memorySet;
            case 2:
                return savedMoves;
            case 3:
                return moves;
            case 4:
                return usedRegisters();
            default:
                return NONE;
        }
    }

    public int input(int v) {
        if (inputCount >= MOST_INPUTS) {
            return NONE;
        }
        inputs[inputCount] = v;
        inputCount++;
        return inputCount;
    }

    public int run() {
        settle();
        startRun();
        for (int step = 0; step < MOST_STEPS && at < length; step++) {
            doInstruction(at);
        }
        return at < length ? LONG : OK;
    }

    public int output(int k) {
        if (k < 0 || k >= outputCount || k >= KEPT_OUTPUTS) {
            return 0;
        }
        return outputs[k];
    }

    public int spent(int what) {
        switch (what) {
            case 0:
                return outputCount;
            case 1:
                return steps;
            case 2:
                return took;
            case 3:
                return taken;
            default:
                return 0;
        }
    }

    public int rewind() {
        int removed = inputCount;
        inputCount = 0;
        return removed;
    }

    // ---- instructions ----

    private static boolean isTemporary(int t) {
        return t >= 0 && t < TEMPORARIES;
    }

    private static boolean isGoal(int i) {
        return i >= 0 && i <= MOST_INSTRUCTIONS;
    }

    private static boolean has(int set, int member) {
        return (set >> member & 1) == 1;
    }

    private static boolean defines(int op) {
        return op <= MOVE || op == IN;
    }

    private static boolean usesFirst(int op) {
        return (op >= ADD && op <= MOVE) || op == ZERO || op == OUT;
    }

    private static boolean usesSecond(int op) {
        return op >= ADD && op <= LESS;
    }

    private static boolean operandsFit(int op, int d, int a, int b) {
        if (defines(op) && !isTemporary(d)) {
            return false;
        }
        if (usesFirst(op) && !isTemporary(a)) {
            return false;
        }
        if (usesSecond(op) && !isTemporary(b)) {
            return false;
        }
        if (op == JUMP && !isGoal(a)) {
            return false;
        }
        return op != ZERO || isGoal(b);
    }

    private int definedBy(int i) {
        return defines(ops[i]) ? 1 << targets[i] : 0;
    }

    private int usedBy(int i) {
        int used = usesFirst(ops[i]) ? 1 << firsts[i] : 0;
        return usesSecond(ops[i]) ? used | 1 << seconds[i] : used;
    }

    /** How many times instruction i names a temporary of the set: one named twice counts twice. */
    private int namings(int i, int set) {
        int count = 0;
        if (defines(ops[i]) && has(set, targets[i])) {
            count++;
        }
        if (usesFirst(ops[i]) && has(set, firsts[i])) {
            count++;
        }
        if (usesSecond(ops[i]) && has(set, seconds[i])) {
            count++;
        }
        return count;
    }

    // ---- what follows from the code ----

    private void settle() {
        if (settled) {
            return;
        }
        findLeads();
        findReaches();
        findAlive();
        findClashes();
        findCosts();
        findNeeds();
        countMoves();
        chooseMemory();
        chooseRegisters();
        settled = true;
    }

    private void findLeads() {
        // What lies at the end has no instruction, so a way there is no way on.
        int present = (1 << length) - 1;
        for (int i = 0; i < length; i++) {
            int next = 1 << (i + 1);
            if (ops[i] == JUMP) {
                next = 1 << firsts[i];
            } else if (ops[i] == ZERO) {
                next = next | 1 << seconds[i];
            } else if (ops[i] == STOP) {
                next = 0;
            }
            leads[i] = next & present;
        }
    }

    private void findReaches() {
        for (int i = 0; i < length; i++) {
            reaches[i] = leads[i];
        }
        for (int through = 0; through < length; through++) {
            for (int i = 0; i < length; i++) {
                if (has(reaches[i], through)) {
                    reaches[i] |= reaches[through];
                }
            }
        }
    }

    private void findAlive() {
        for (int i = 0; i < length; i++) {
            before[i] = 0;
        }
        // Each pass goes at least a step back on every way, and one without a repeated instruction has at most
        // length of them; the pass more lets behindOf see the last of before.
        for (int pass = 0; pass <= length; pass++) {
            for (int i = length - 1; i >= 0; i--) {
                behindOf[i] = aliveAfter(i);
                before[i] = usedBy(i) | behindOf[i] & ~definedBy(i);
            }
        }
    }

    private int aliveAfter(int i) {
        int set = 0;
        for (int next = 0; next < length; next++) {
            if (has(leads[i], next)) {
                set |= before[next];
            }
        }
        return set;
    }

    private void findClashes() {
        for (int t = 0; t < TEMPORARIES; t++) {
            clashSets[t] = 0;
        }
        for (int i = 0; i < length; i++) {
            if (defines(ops[i])) {
                // Behind a MOVE both hold the same value, so they may share a register.
                int same = ops[i] == MOVE ? 1 << firsts[i] : 0;
                addClashes(targets[i], behindOf[i] & ~same);
            }
        }
        int atStart = length > 0 ? before[0] : 0;
        for (int t = 0; t < TEMPORARIES; t++) {
            if (has(atStart, t)) {
                addClashes(t, atStart);
            }
        }
    }

    private void addClashes(int t, int set) {
        for (int u = 0; u < TEMPORARIES; u++) {
            if (u != t && has(set, u)) {
                clashSets[t] |= 1 << u;
                clashSets[u] |= 1 << t;
            }
        }
    }

    private void findCosts() {
        for (int t = 0; t < TEMPORARIES; t++) {
            costs[t] = 0;
            for (int i = 0; i < length; i++) {
                int weight = has(reaches[i], i) ? LOOP_WEIGHT : 1;
                int times = namings(i, 1 << t);
                costs[t] += weight * times;
            }
        }
    }

    private void countMoves() {
        moves = 0;
        for (int i = 0; i < length; i++) {
            if (ops[i] == MOVE) {
                moves++;
            }
        }
    }

    /** For each set of temporaries the least number of registers that keeps apart those that clash. */
    private void findNeeds() {
        for (int set = 0; set < SETS; set++) {
            free[set] = isFreeOfClashes(set);
        }
        needs[0] = 0;
        for (int set = 1; set < SETS; set++) {
            needs[set] = TEMPORARIES;
            for (int sharing = 1; sharing <= set; sharing++) {
                if ((sharing & ~set) == 0 && free[sharing] && needs[set ^ sharing] + 1 < needs[set]) {
                    needs[set] = needs[set ^ sharing] + 1;
                }
            }
        }
    }

    private boolean isFreeOfClashes(int set) {
        for (int t = 0; t < TEMPORARIES; t++) {
            if (has(set, t) && (clashSets[t] & set) != 0) {
                return false;
            }
        }
        return true;
    }

    // ---- the best allocation ----

    private void chooseMemory() {
        memorySet = EVERY_TEMPORARY;
        memoryCost = costOf(EVERY_TEMPORARY);
        // Downwards, so that of equal costs the least set is the last one taken.
        for (int set = EVERY_TEMPORARY - 1; set >= 0; set--) {
            int sum = costOf(set);
            if (needs[EVERY_TEMPORARY ^ set] <= registerCount && sum <= memoryCost) {
                memorySet = set;
                memoryCost = sum;
            }
        }
    }

    private int costOf(int set) {
        int sum = 0;
        for (int t = 0; t < TEMPORARIES; t++) {
            if (has(set, t)) {
                sum += costs[t];
            }
        }
        return sum;
    }

    private void chooseRegisters() {
        choice = 0;
        savedMoves = -1;
        int tried = 0;
        for (int turn = 0; turn < CHOICES && tried < CHOICES && savedMoves < moves; turn++) {
            int misfit = firstMisfit(tried);
            if (misfit < TEMPORARIES) {
                // All that differ from this one only behind the misfit have it too, so they are passed over.
                tried |= (1 << (TOP_SHIFT - 2 * misfit)) - 1;
            } else {
                keepIfBetter(tried);
            }
            tried++;
        }
    }

    private void keepIfBetter(int tried) {
        int saved = 0;
        for (int i = 0; i < length; i++) {
            if (isSaved(i, tried)) {
                saved++;
            }
        }
        if (saved > savedMoves) {
            savedMoves = saved;
            choice = tried;
        }
    }

    private int firstMisfit(int tried) {
        for (int t = 0; t < TEMPORARIES; t++) {
            if (!fits(tried, t)) {
                return t;
            }
        }
        return TEMPORARIES;
    }

    private boolean fits(int tried, int t) {
        int register = registerIn(tried, t);
        if (has(memorySet, t)) {
            // One number for each allocation: the bits of those in memory stay 0.
            return register == 0;
        }
        if (register >= registerCount) {
            return false;
        }
        int rivals = clashSets[t] & ~memorySet;
        for (int u = 0; u < t; u++) {
            if (has(rivals, u) && registerIn(tried, u) == register) {
                return false;
            }
        }
        return true;
    }

    private static int registerIn(int tried, int t) {
        return tried >> (TOP_SHIFT - 2 * t) & 3;
    }

    private boolean isSaved(int i, int tried) {
        if (ops[i] != MOVE) {
            return false;
        }
        int d = targets[i];
        int a = firsts[i];
        if (d == a) {
            return true;
        }
        return !has(memorySet, d) && !has(memorySet, a) && registerIn(tried, d) == registerIn(tried, a);
    }

    private int usedRegisters() {
        int used = 0;
        for (int t = 0; t < TEMPORARIES; t++) {
            if (!has(memorySet, t)) {
                used |= 1 << registerIn(choice, t);
            }
        }
        int count = 0;
        for (int register = 0; register < MOST_REGISTERS; register++) {
            if (has(used, register)) {
                count++;
            }
        }
        return count;
    }

    // ---- the machine ----

    private void startRun() {
        for (int cell = 0; cell < CELLS; cell++) {
            cells[cell] = 0;
        }
        at = 0;
        outputCount = 0;
        steps = 0;
        took = 0;
        taken = 0;
    }

    private void doInstruction(int i) {
        steps++;
        if (!isSaved(i, choice)) {
            took += 1 + 2 * namings(i, memorySet);
        }
        at = i + 1;
        if (defines(ops[i])) {
            int cell = cellOf(targets[i]);
            cells[cell] = valueOf(i);
        } else if (ops[i] == JUMP) {
            at = firsts[i];
        } else if (ops[i] == ZERO) {
            at = read(firsts[i]) == 0 ? seconds[i] : at;
        } else if (ops[i] == OUT) {
            int value = read(firsts[i]);
            keepOutput(value);
        } else {
            at = length;
        }
    }

    private int valueOf(int i) {
        if (ops[i] == LI) {
            return firsts[i];
        }
        if (ops[i] == IN) {
            return nextInput();
        }
        int first = read(firsts[i]);
        if (ops[i] == MOVE) {
            return first;
        }
        int second = read(seconds[i]);
        switch (ops[i]) {
            case ADD:
                return first + second;
            case SUB:
                return first - second;
            case MUL:
                return first * second;
            default:
                return first < second ? 1 : 0;
        }
    }

    /** Registers are the first cells, and each temporary has one of the others for when it lies in memory. */
    private int cellOf(int t) {
        return has(memorySet, t) ? MOST_REGISTERS + t : registerIn(choice, t);
    }

    private int read(int t) {
        return cells[cellOf(t)];
    }

    private int nextInput() {
        int value = taken < inputCount ? inputs[taken] : 0;
        taken++;
        return value;
    }

    private void keepOutput(int value) {
        if (outputCount < KEPT_OUTPUTS) {
            outputs[outputCount] = value;
        }
        outputCount++;
    }
}
