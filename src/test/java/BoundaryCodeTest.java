/** The boundary cases of promises 1 to 4, a test for each sentence; the quotes are the document's words. */
public final class BoundaryCodeTest extends Bench {
    private static final int[] NO_TEMPORARY = {-1, 8, 20, 32, 256, MIN, MAX};
    private static final int[] NO_GOAL = {-1, 21, 32, 256, MIN, MAX};

    public static void main(String[] args) {
        newNoCode();
        newTwoRegisters();
        newNoInputs();
        newNoOutputs();
        newSharesNothing();
        usedForFiveHundredTwelveCalls();
        putItsNumber();
        putOpOutOfRange();
        putOpEnds();
        putOperandD();
        putOperandA();
        putOperandB();
        putTargets();
        putOperandNotLookedAt();
        putWhenThereAreTwenty();
        putRefusedTakesNoNumber();
        wipeOfNothing();
        wipeOfAll();
        wipeLeavesTheRest();
        registersEnds();
        registersRefused();
        registersSameAgain();
        registersLeavesTheRest();
        Due.end();
    }

    /** 1: "No code". */
    private static void newNoCode() {
        Due.is("1: wipe", new ColourDesk().wipe(), 0);
        ColourDesk x = new ColourDesk();
        Due.is("1: before 0", x.alive(0, false), -1);
        Due.is("1: behind 0", x.alive(0, true), -1);
        for (int t = 0; t < 8; t++) {
            Due.is("1: cost", x.cost(t), 0);
            Due.is("1: clashes", x.clashes(t), 0);
            Due.is("1: place", x.place(t), 0);
        }
        Due.is("1: MOVEs", x.best(3), 0);
        Due.is("1: the first number", x.put(STOP, 0, 0, 0), 0);
    }

    /** 1: "2 registers". */
    private static void newTwoRegisters() {
        ColourDesk x = desk(OUT, 0, 0, 0, OUT, 0, 1, 0);
        Due.is("1: two are enough for two", x.best(1), 0);
        Due.is("1: two are used", x.best(4), 2);
        x.put(OUT, 0, 2, 0);
        Due.is("1: but not for three", x.best(1), 1);
        Due.is("1: two are used", x.best(4), 2);
    }

    /** 1: "no inputs". */
    private static void newNoInputs() {
        Due.is("1: rewind", new ColourDesk().rewind(), 0);
        Due.is("1: the first input", new ColourDesk().input(4), 1);
        outputs("1: 0 is taken", desk(IN, 0, 0, 0, OUT, 0, 0, 0), 0);
    }

    /** 1: "no outputs". */
    private static void newNoOutputs() {
        ColourDesk x = new ColourDesk();
        for (int k = -1; k <= 31; k++) {
            Due.is("1: output(" + k + ")", x.output(k), 0);
        }
        spent("1", x, 0, 0, 0, 0, 0);
    }

    /** 1: "A new object": what was done to another one is not in it. */
    private static void newSharesNothing() {
        Seen alone = Seen.ofTheRest(new ColourDesk());
        full();
        ColourDesk x = new ColourDesk();
        busy();
        alone.same("1: a new object beside others", Seen.ofTheRest(x));
    }

    /** "An object is used for at most 512 calls": the last of them answers as the first did. */
    private static void usedForFiveHundredTwelveCalls() {
        ColourDesk x = new ColourDesk();
        for (int round = 0; round < 64; round++) {
            Due.is("512: input", x.input(round), 1);
            Due.is("512: put", x.put(IN, 0, 0, 0), 0);
            Due.is("512: put", x.put(OUT, 0, 0, 0), 1);
            Due.is("512: run", x.run(), ColourDesk.OK);
            Due.is("512: spent", x.spent(1), 2);
            Due.is("512: rewind", x.rewind(), 1);
            Due.is("512: wipe", x.wipe(), 2);
            Due.is("512: output", x.output(0), round);
        }
    }

    /** 2: "Appends an instruction: its number". */
    private static void putItsNumber() {
        ColourDesk x = new ColourDesk();
        for (int op = LI; op <= STOP; op++) {
            Due.is("2: number of op " + op, x.put(op, 1, 2, 3), op);
        }
        Due.is("2: the last is there", x.alive(STOP, false), 0);
        Due.is("2: no more is there", x.alive(STOP + 1, false), -1);
        Due.is("2: eleven", x.wipe(), 11);
        Due.is("2: the first again", x.put(OUT, 0, 5, 0), 0);
        Due.is("2: it is the new one", x.alive(0, false), 32);
    }

    /** 2: "NONE, and nothing changes, if op is not 0..10". */
    private static void putOpOutOfRange() {
        for (int op : new int[] {-1, 11, -5, 16, 256, MIN, MAX}) {
            refused("2: op " + op, x -> x.put(op, 0, 0, 0), -1, ColourDesk::new, Bench::busy, Bench::full);
        }
    }

    /** 2: "op .. 0..10": both ends are instructions. */
    private static void putOpEnds() {
        outputs("2: op 0", desk(0, 2, 6, 0, OUT, 0, 2, 0), 6);
        outputs("2: op 10", desk(10, 0, 0, 0, OUT, 0, 2, 0));
    }

    private static void wrongOperand(int op, int which, int[] wrong) {
        for (int v : wrong) {
            int d = which == 0 ? v : 1;
            int a = which == 1 ? v : 1;
            int b = which == 2 ? v : 1;
            refused("2: put(" + op + ", " + d + ", " + a + ", " + b + ")", x -> x.put(op, d, a, b), -1,
                ColourDesk::new, Bench::busy);
        }
    }

    private static void rightOperand(int op, int which, int last) {
        for (int v : new int[] {0, last}) {
            ColourDesk x = new ColourDesk();
            int answer = x.put(op, which == 0 ? v : 1, which == 1 ? v : 1, which == 2 ? v : 1);
            Due.is("2: op " + op + " with " + v + " as operand " + which, answer, 0);
            Due.is("2: it is there", x.wipe(), 1);
        }
    }

    /** 2: "an operand that is looked at is out of its range": d. */
    private static void putOperandD() {
        for (int op : new int[] {LI, ADD, SUB, MUL, LESS, MOVE, IN}) {
            wrongOperand(op, 0, NO_TEMPORARY);
            rightOperand(op, 0, 7);
        }
    }

    /** 2: "an operand that is looked at is out of its range": a, where it is a temporary. */
    private static void putOperandA() {
        for (int op : new int[] {ADD, SUB, MUL, LESS, MOVE, ZERO, OUT}) {
            wrongOperand(op, 1, NO_TEMPORARY);
            rightOperand(op, 1, 7);
        }
    }

    /** 2: "an operand that is looked at is out of its range": b, where it is a temporary. */
    private static void putOperandB() {
        for (int op : new int[] {ADD, SUB, MUL, LESS}) {
            wrongOperand(op, 2, NO_TEMPORARY);
            rightOperand(op, 2, 7);
        }
    }

    /** 2: "an operand that is looked at is out of its range": JUMP's a and ZERO's b go from 0 to 20. */
    private static void putTargets() {
        wrongOperand(JUMP, 1, NO_GOAL);
        rightOperand(JUMP, 1, 20);
        wrongOperand(ZERO, 2, NO_GOAL);
        rightOperand(ZERO, 2, 20);
    }

    private static void unread(int op, int d, int a, int b, int w) {
        ColourDesk plain = desk(op, d < 0 ? 0 : d, a < 0 ? 0 : a, b < 0 ? 0 : b, OUT, 0, 0, 0);
        ColourDesk wild = desk(op, d < 0 ? w : d, a < 0 ? w : a, b < 0 ? w : b, OUT, 0, 0, 0);
        Seen.ofTheRest(plain).same("2: op " + op + " with " + w + " unread", Seen.ofTheRest(wild));
    }

    /** 2: "an operand that is looked at": the others may be any int, and make no difference. */
    private static void putOperandNotLookedAt() {
        for (int w : new int[] {-1, 1, 7, 8, 20, 21, 32, MIN, MAX}) {
            unread(LI, 0, 5, -1, w);
            unread(MOVE, 0, 1, -1, w);
            unread(JUMP, -1, 1, -1, w);
            unread(ZERO, -1, 1, 2, w);
            unread(OUT, -1, 1, -1, w);
            unread(IN, 1, -1, -1, w);
            unread(STOP, -1, -1, -1, w);
        }
    }

    /** 2: "or there are 20". */
    private static void putWhenThereAreTwenty() {
        for (int op = LI; op <= STOP; op++) {
            int right = op;
            refused("2: op " + op + " when there are 20", x -> x.put(right, 1, 1, 1), -1, Bench::full);
        }
        ColourDesk x = new ColourDesk();
        for (int i = 0; i < 20; i++) {
            Due.is("2: up to 20", x.put(STOP, 0, 0, 0), i);
        }
        Due.is("2: not 21", x.put(STOP, 0, 0, 0), -1);
        Due.is("2: nor later", x.put(STOP, 0, 0, 0), -1);
        Due.is("2: there are 20", x.wipe(), 20);
        Due.is("2: there is room again", x.put(STOP, 0, 0, 0), 0);
    }

    /** 2: "NONE, and nothing changes": the next one has the number that the refused one would have had. */
    private static void putRefusedTakesNoNumber() {
        ColourDesk x = new ColourDesk();
        for (int i = 0; i < 20; i++) {
            Due.is("2: refused", x.put(ADD, 0, 0, 8), -1);
            Due.is("2: the next", x.put(OUT, 0, i % 8, 0), i);
            Due.is("2: it is there", x.alive(i, false), 1 << i % 8);
        }
    }

    /** 3: "how many there were": 0. */
    private static void wipeOfNothing() {
        refused("3: wipe of nothing", x -> x.wipe(), 0, ColourDesk::new, BoundaryCodeTest::wiped);
    }

    private static ColourDesk wiped() {
        ColourDesk x = full();
        x.wipe();
        return x;
    }

    /** 3: "Removes the instructions: how many there were": 1 .. 20, and then none is there. */
    private static void wipeOfAll() {
        ColourDesk x = new ColourDesk();
        for (int n = 1; n <= 20; n++) {
            for (int i = 0; i < n; i++) {
                x.put(OUT, 0, 1, 0);
            }
            Due.is("3: how many there were", x.wipe(), n);
            Due.is("3: none is left", x.alive(0, false), -1);
            Due.is("3: none costs", x.cost(1), 0);
        }
    }

    /** 3: "Removes the instructions", and no more: registers, inputs and the latest run are as they were. */
    private static void wipeLeavesTheRest() {
        ColourDesk x = full();
        Due.is("3: twenty", x.wipe(), 20);
        spent("3: the latest run", x, 128, 200, 368, 8);
        Due.is("3: its first output", x.output(0), 100);
        Due.is("3: its last output", x.output(29), 105);
        for (int t = 0; t < 8; t++) {
            x.put(OUT, 0, t, 0);
        }
        Due.is("3: four registers", x.best(4), 4);
        Due.is("3: eight inputs", x.input(1), -1);
        Due.is("3: eight inputs", x.rewind(), 8);
    }

    private static ColourDesk eightClash() {
        ColourDesk x = new ColourDesk();
        for (int t = 0; t < 8; t++) {
            x.put(OUT, 0, t, 0);
        }
        return x;
    }

    /** 4: "Sets k: true": 1 and 4 are the ends. */
    private static void registersEnds() {
        ColourDesk x = eightClash();
        Due.is("4: registers(1)", x.registers(1), true);
        places("4: one", x, -2, -2, -2, -2, -2, -2, -2, 0);
        Due.is("4: registers(4)", x.registers(4), true);
        places("4: four", x, -2, -2, -2, -2, 0, 1, 2, 3);
    }

    /** 4: "false, and nothing changes, if it is not 1..4". */
    private static void registersRefused() {
        for (int k : new int[] {0, 5, -1, 8, 257, MIN, MAX}) {
            refused("4: registers(" + k + ")", x -> x.registers(k) ? 1 : 0, 0, ColourDesk::new, Bench::busy, Bench::full,
                BoundaryCodeTest::eightClash);
        }
    }

    /** 4: "Sets k: true": also to what it is. */
    private static void registersSameAgain() {
        refused("4: registers(2) again", x -> x.registers(2) ? 1 : 0, 1, ColourDesk::new, BoundaryCodeTest::eightClash);
        refused("4: registers(4) again", x -> x.registers(4) ? 1 : 0, 1, Bench::full);
        refused("4: registers(1) again", x -> x.registers(1) ? 1 : 0, 1, Bench::busy);
    }

    /** 4: "Sets k", and no more: code, inputs and the latest run are as they were. */
    private static void registersLeavesTheRest() {
        ColourDesk x = full();
        x.registers(1);
        spent("4: the latest run", x, 128, 200, 368, 8);
        Due.is("4: its last output", x.output(29), 105);
        Due.is("4: eight inputs", x.rewind(), 8);
        Due.is("4: twenty instructions", x.wipe(), 20);
    }
}
