/** Each promise of the document, by hand: ordinary inputs, the edges that it names, and wrong inputs. */
public final class PromisesTest extends Bench {
    private static final int[] FAR = {Integer.MIN_VALUE, -100, -2, 21, 33, 100, Integer.MAX_VALUE};

    public static void main(String[] args) {
        constants();
        promise1New();
        promise2PutRanges();
        promise2PutUnread();
        promise2PutFull();
        promise3Wipe();
        promise4Registers();
        promise5Alive();
        promise5AliveInLoops();
        promise6Clashes();
        promise6ClashesOfMoves();
        promise7Cost();
        promise8Least();
        promise9Place();
        promise9PlaceOrder();
        promise10Best();
        promise10Memory();
        promise11Input();
        promise12Arithmetic();
        promise12Ways();
        promise12Limit();
        promise12Inputs();
        promise13Output();
        promise14Spent();
        promise14Took();
        promise15Rewind();
        promise16UsedRegisters();
        Due.end();
    }

    private static void constants() {
        Due.is("OK", ColourDesk.OK, 0);
        Due.is("LONG", ColourDesk.LONG, 1);
        Due.is("NONE", ColourDesk.NONE, -1);
        Due.is("MEMORY", ColourDesk.MEMORY, -2);
    }

    private static void promise1New() {
        ColourDesk x = new ColourDesk();
        Due.is("1: alive(0)", x.alive(0, false), -1);
        Due.is("1: least", x.least(), 1);
        for (int t = 0; t < 8; t++) {
            Due.is("1: clashes", x.clashes(t), 0);
            Due.is("1: cost", x.cost(t), 0);
            Due.is("1: place", x.place(t), 0);
        }
        int[] best = {0, 0, 0, 0, 1};
        for (int what = 0; what < 5; what++) {
            Due.is("1: best(" + what + ")", x.best(what), best[what]);
            Due.is("1: spent(" + what + ")", x.spent(what), 0);
        }
        Due.is("1: output(0)", x.output(0), 0);
        Due.is("1: run", x.run(), ColourDesk.OK);
        Due.is("1: spent(1) of no code", x.spent(1), 0);
        Due.is("1: rewind", new ColourDesk().rewind(), 0);
        Due.is("1: wipe", new ColourDesk().wipe(), 0);
        // Three temporaries that clash, each named twice: with 2 registers just one of them is in memory.
        ColourDesk two = desk(LI, 0, 1, 0, LI, 1, 1, 0, LI, 2, 1, 0, OUT, 0, 0, 0, OUT, 0, 1, 0, OUT, 0, 2, 0);
        Due.is("1: 2 registers", two.best(1), 1);
        Due.is("1: 2 registers, used", two.best(4), 2);
        ColourDesk other = new ColourDesk();
        Due.is("1: objects share nothing", other.wipe(), 0);
        Due.is("1: objects share nothing", two.wipe(), 6);
    }

    /** What put answers for v as d, a or b of op, everything else being 0. */
    private static int putOne(int op, int operand, int v) {
        ColourDesk x = new ColourDesk();
        int answer = x.put(op, operand == 0 ? v : 0, operand == 1 ? v : 0, operand == 2 ? v : 0);
        Due.is("2: what is there after put of op " + op, x.wipe(), answer == 0 ? 1 : 0);
        return answer;
    }

    private static void range(int op, int operand, int last) {
        String what = "2: op " + op + " operand " + operand + " is ";
        for (int v = 0; v <= 21; v++) {
            Due.is(what + v, putOne(op, operand, v), v <= last ? 0 : -1);
        }
        Due.is(what + -1, putOne(op, operand, -1), -1);
        for (int v : FAR) {
            Due.is(what + v, putOne(op, operand, v), -1);
        }
    }

    private static void unread(int op, int operand) {
        for (int v = -2; v <= 22; v++) {
            Due.is("2: op " + op + " does not look at operand " + operand, putOne(op, operand, v), 0);
        }
        for (int v : FAR) {
            Due.is("2: op " + op + " does not look at operand " + operand, putOne(op, operand, v), 0);
        }
    }

    private static void promise2PutRanges() {
        for (int op = ADD; op <= LESS; op++) {
            range(op, 0, 7);
            range(op, 1, 7);
            range(op, 2, 7);
        }
        range(LI, 0, 7);
        range(MOVE, 0, 7);
        range(MOVE, 1, 7);
        range(JUMP, 1, 20);
        range(ZERO, 1, 7);
        range(ZERO, 2, 20);
        range(OUT, 1, 7);
        range(IN, 0, 7);
        for (int op : new int[] {-1, 11, 12, 16, Integer.MIN_VALUE, Integer.MAX_VALUE}) {
            Due.is("2: op " + op, putOne(op, 0, 0), -1);
        }
    }

    private static void promise2PutUnread() {
        unread(LI, 1);
        unread(LI, 2);
        unread(MOVE, 2);
        unread(JUMP, 0);
        unread(JUMP, 2);
        unread(ZERO, 0);
        unread(OUT, 0);
        unread(OUT, 2);
        unread(IN, 1);
        unread(IN, 2);
        unread(STOP, 0);
        unread(STOP, 1);
        unread(STOP, 2);
    }

    private static void promise2PutFull() {
        ColourDesk x = new ColourDesk();
        for (int i = 0; i < 20; i++) {
            Due.is("2: put no " + i, x.put(OUT, 0, i % 8, 0), i);
            Due.is("2: a wrong one between", x.put(OUT, 0, 8, 0), -1);
        }
        Due.is("2: the 21st", x.put(STOP, 0, 0, 0), -1);
        Due.is("2: the 21st changes nothing", x.alive(19, false), 1 << 3);
        Due.is("2: there is no 21st", x.alive(20, false), -1);
        Due.is("2: wipe", x.wipe(), 20);
        Due.is("2: numbers begin anew", x.put(STOP, 0, 0, 0), 0);
    }

    private static void promise3Wipe() {
        ColourDesk x = desk(LI, 0, 9, 0, OUT, 0, 0, 0, MOVE, 1, 0, 0);
        x.registers(1);
        x.input(4);
        outputs("3: before", x, 9);
        Due.is("3: wipe", x.wipe(), 3);
        Due.is("3: again", x.wipe(), 0);
        Due.is("3: no instruction", x.alive(0, false), -1);
        Due.is("3: no cost", x.cost(0), 0);
        Due.is("3: no move", x.best(3), 0);
        Due.is("3: the latest run stays", x.output(0), 9);
        Due.is("3: the latest run stays", x.spent(1), 3);
        Due.is("3: inputs stay", x.rewind(), 1);
        Due.is("3: put again", x.put(OUT, 0, 3, 0), 0);
        Due.is("3: alive anew", x.alive(0, false), 8);
        Due.is("3: put again", x.put(OUT, 0, 4, 0), 1);
        Due.is("3: registers stay", x.best(1), 8);
    }

    private static void promise4Registers() {
        ColourDesk x = desk(OUT, 0, 0, 0, OUT, 0, 1, 0, OUT, 0, 2, 0, OUT, 0, 3, 0, OUT, 0, 4, 0);
        int[] memory = {0, 15, 7, 3, 1};
        for (int k = 1; k <= 4; k++) {
            Due.is("4: registers(" + k + ")", x.registers(k), true);
            Due.is("4: in memory with " + k, x.best(1), memory[k]);
            Due.is("4: used with " + k, x.best(4), k);
            for (int wrong : new int[] {0, 5, -1, 8, Integer.MIN_VALUE, Integer.MAX_VALUE}) {
                Due.is("4: registers(" + wrong + ")", x.registers(wrong), false);
                Due.is("4: nothing changes", x.best(1), memory[k]);
            }
        }
        Due.is("4: down again", x.registers(2), true);
        Due.is("4: in memory with 2", x.best(1), 7);
        Due.is("4: the code stays", x.wipe(), 5);
    }

    private static void promise5Alive() {
        ColourDesk x = desk(ADD, 0, 1, 2, ADD, 1, 0, 1, OUT, 0, 1, 0, STOP, 0, 0, 0, OUT, 0, 5, 0);
        int[] before = {6, 3, 2, 0, 32};
        int[] behind = {3, 2, 0, 0, 0};
        for (int i = 0; i < 5; i++) {
            Due.is("5: before " + i, x.alive(i, false), before[i]);
            Due.is("5: behind " + i, x.alive(i, true), behind[i]);
        }
        for (int wrong : new int[] {-1, 5, 19, 20, 21, Integer.MIN_VALUE, Integer.MAX_VALUE}) {
            Due.is("5: before " + wrong, x.alive(wrong, false), -1);
            Due.is("5: behind " + wrong, x.alive(wrong, true), -1);
        }
        // Appending gives the last one something to lead to.
        x.put(OUT, 0, 6, 0);
        Due.is("5: behind 4 with more", x.alive(4, true), 64);
        Due.is("5: before 4 with more", x.alive(4, false), 96);
        // A jump beyond the code leads nowhere until there is an instruction.
        ColourDesk y = desk(JUMP, 7, 2, 7, OUT, 0, 0, 0);
        Due.is("5: jump to the end", y.alive(0, false), 0);
        y.put(OUT, 0, 7, 0);
        Due.is("5: jump to what came", y.alive(0, false), 128);
        Due.is("5: jump to what came", y.alive(0, true), 128);
        // LI's a and ZERO's b are no temporaries; an instruction uses before it defines.
        ColourDesk z = desk(LI, 0, 3, 5, MOVE, 4, 4, 6, ZERO, 5, 0, 3, IN, 2, 2, 2, LESS, 2, 2, 2);
        int[] zBefore = {16, 17, 1, 0, 4};
        for (int i = 0; i < 5; i++) {
            Due.is("5: before " + i + " of z", z.alive(i, false), zBefore[i]);
        }
    }

    private static void promise5AliveInLoops() {
        // 0: ZERO 0 -> 4, 1: OUT 1, 2: IN 2, 3: JUMP 0, 4: OUT 3
        ColourDesk x = desk(ZERO, 0, 0, 4, OUT, 0, 1, 0, IN, 2, 0, 0, JUMP, 0, 0, 0, OUT, 0, 3, 0);
        int[] before = {11, 11, 11, 11, 8};
        for (int i = 0; i < 5; i++) {
            Due.is("5: before " + i + " of a loop", x.alive(i, false), before[i]);
        }
        Due.is("5: behind a loop's end", x.alive(4, true), 0);
        // Each jump goes one back, so what the first of them comes to is known to the last one late.
        ColourDesk y = new ColourDesk();
        y.put(JUMP, 0, 19, 0);
        y.put(OUT, 0, 7, 0);
        y.put(STOP, 0, 0, 0);
        for (int i = 3; i < 20; i++) {
            y.put(JUMP, 0, i == 3 ? 1 : i - 1, 0);
        }
        Due.is("5: along a long way", y.alive(0, false), 128);
        Due.is("5: along a long way", y.alive(19, true), 128);
        ColourDesk z = new ColourDesk();
        for (int i = 0; i < 19; i++) {
            z.put(JUMP, 0, i + 1, 0);
        }
        z.put(ADD, 7, 6, 5);
        Due.is("5: the other way round", z.alive(0, false), 96);
        Due.is("5: nothing behind the last of 20", z.alive(19, true), 0);
        Due.is("5: a jump to itself", desk(JUMP, 0, 0, 0, OUT, 0, 1, 0).alive(0, true), 0);
    }

    private static void promise6Clashes() {
        ColourDesk x = desk(LI, 0, 1, 0, LI, 1, 2, 0, LI, 5, 0, 0, ADD, 2, 0, 1, OUT, 0, 2, 0);
        // 5 is never used, but what defines it would destroy 0 or 1.
        int[] want = {34, 33, 0, 0, 0, 3, 0, 0};
        for (int t = 0; t < 8; t++) {
            Due.is("6: clashes(" + t + ")", x.clashes(t), want[t]);
        }
        for (int wrong : new int[] {-1, 8, 31, 32, Integer.MIN_VALUE, Integer.MAX_VALUE}) {
            Due.is("6: clashes(" + wrong + ")", x.clashes(wrong), -1);
        }
        ColourDesk y = desk(ADD, 0, 1, 2, OUT, 0, 3, 0);
        Due.is("6: alive at the start", y.clashes(1), 12);
        Due.is("6: alive at the start", y.clashes(3), 7);
        Due.is("6: alive before 0, not alive before 1", y.clashes(0), 8);
        ColourDesk z = desk(STOP, 0, 0, 0, OUT, 0, 1, 0, OUT, 0, 2, 0);
        Due.is("6: alive together, but nowhere defined and not at the start", z.clashes(1), 0);
        z.wipe();
        z.put(STOP, 0, 0, 0);
        z.put(IN, 1, 0, 0);
        z.put(OUT, 0, 2, 0);
        Due.is("6: also where no run comes", z.clashes(1), 4);
        Due.is("6: nothing clashes with itself", desk(ADD, 0, 0, 0, OUT, 0, 0, 0).clashes(0), 0);
        ColourDesk w = desk(OUT, 0, 0, 0, OUT, 0, 1, 0);
        w.wipe();
        Due.is("6: nothing without code", w.clashes(0), 0);
    }

    private static void promise6ClashesOfMoves() {
        ColourDesk x = desk(LI, 0, 1, 0, MOVE, 1, 0, 0, OUT, 0, 0, 0, OUT, 0, 1, 0);
        Due.is("6: a MOVE's own two", x.clashes(0), 0);
        x.put(OUT, 0, 2, 0);
        Due.is("6: a MOVE and a third", x.clashes(1), 4);
        ColourDesk y = desk(LI, 0, 1, 0, MOVE, 1, 0, 0, LI, 0, 2, 0, OUT, 0, 0, 0, OUT, 0, 1, 0);
        Due.is("6: one of the two is defined anew", y.clashes(0), 2);
        ColourDesk z = desk(LI, 0, 1, 0, LI, 1, 0, 0, MOVE, 1, 0, 0, OUT, 0, 0, 0, OUT, 0, 1, 0);
        Due.is("6: dead before the MOVE, but defined beside the other", z.clashes(1), 1);
        ColourDesk w = desk(MOVE, 1, 0, 0, OUT, 0, 0, 0, OUT, 0, 1, 0);
        Due.is("6: a MOVE at the start", w.clashes(0), 0);
        Due.is("6: the b of a MOVE is not looked at", desk(MOVE, 1, 0, 2, OUT, 0, 1, 0, OUT, 0, 2, 0).clashes(1), 4);
        Due.is("6: only a MOVE", desk(LI, 0, 1, 0, ADD, 1, 0, 0, OUT, 0, 0, 0, OUT, 0, 1, 0).clashes(1), 1);
    }

    private static void promise7Cost() {
        ColourDesk x = desk(LI, 0, 1, 1, ADD, 2, 2, 2, MOVE, 3, 3, 4, ZERO, 5, 4, 5, OUT, 6, 5, 6, IN, 6, 7, 7);
        int[] want = {1, 0, 3, 2, 1, 1, 1, 0};
        for (int t = 0; t < 8; t++) {
            Due.is("7: cost(" + t + ")", x.cost(t), want[t]);
        }
        for (int wrong : new int[] {-1, 8, 32, Integer.MIN_VALUE, Integer.MAX_VALUE}) {
            Due.is("7: cost(" + wrong + ")", x.cost(wrong), -1);
        }
        ColourDesk y = desk(OUT, 0, 0, 0, ADD, 1, 0, 1, ZERO, 0, 2, 1, OUT, 0, 2, 0);
        int[] looped = {11, 20, 11, 0};
        for (int t = 0; t < 4; t++) {
            Due.is("7: with a loop: cost(" + t + ")", y.cost(t), looped[t]);
        }
        Due.is("7: one step to itself", desk(ZERO, 0, 3, 0).cost(3), 10);
        Due.is("7: in no loop", desk(ZERO, 0, 3, 1).cost(3), 1);
        Due.is("7: a loop that no run comes to", desk(STOP, 0, 0, 0, OUT, 0, 1, 0, JUMP, 0, 1, 0).cost(1), 10);
        Due.is("7: comes to a loop, but is in none", desk(OUT, 0, 1, 0, JUMP, 0, 1, 0).cost(1), 1);
        Due.is("7: STOP leads to none", desk(OUT, 0, 1, 0, STOP, 0, 0, 0, JUMP, 0, 0, 0).cost(1), 1);
        Due.is("7: JUMP does not lead to the next", desk(JUMP, 0, 2, 0, JUMP, 0, 0, 0, OUT, 0, 1, 0).cost(1), 1);
        Due.is("7: as d, a and b in a loop", desk(ADD, 4, 4, 4, JUMP, 0, 0, 0).cost(4), 30);
        Due.is("7: twice in a ring is still one loop", desk(OUT, 0, 4, 0, ZERO, 0, 1, 0, JUMP, 0, 0, 0).cost(4), 10);
    }

    private static void promise8Least() {
        ColourDesk x = new ColourDesk();
        for (int t = 0; t < 8; t++) {
            x.put(OUT, 0, t, 0);
            Due.is("8: least of " + (t + 1) + " that clash", x.least(), t + 1);
        }
        for (int k = 1; k <= 4; k++) {
            x.registers(k);
            Due.is("8: the registers are not looked at", x.least(), 8);
        }
        Due.is("8: no code", new ColourDesk().least(), 1);
        Due.is("8: no clash", desk(LI, 0, 1, 0, OUT, 0, 0, 0, LI, 1, 1, 0, OUT, 0, 1, 0).least(), 1);
        ring(0, 3);
        ring(1, 3);
        ColourDesk y = desk(LI, 0, 0, 0, LI, 1, 0, 0, OUT, 0, 0, 0, LI, 2, 0, 0, OUT, 0, 1, 0, OUT, 0, 2, 0);
        Due.is("8: a path", y.least(), 2);
    }

    /** Five temporaries from t on that clash in a ring: no three clash, yet two registers are not enough. */
    private static void ring(int t, int want) {
        ColourDesk x = new ColourDesk();
        for (int i = 0; i < 5; i++) {
            x.put(IN, t + i, 0, 0);
            x.put(OUT, 0, t + (i + 1) % 5, 0);
            x.put(STOP, 0, 0, 0);
        }
        Due.is("8: who clashes in a ring", x.clashes(t), 1 << (t + 1) | 1 << (t + 4));
        Due.is("8: a ring of five", x.least(), want);
        Due.is("8: a ring of five, in memory", x.best(1), 1 << t);
        x.registers(3);
        places("8: a ring of five", x, t == 0 ? new int[] {0, 1, 0, 1, 2, 0} : new int[] {0, 0, 1, 0, 1, 2});
    }

    private static void promise9Place() {
        ColourDesk x = desk(OUT, 0, 0, 0, OUT, 0, 1, 0, OUT, 0, 1, 0, OUT, 0, 2, 0, OUT, 0, 2, 0);
        places("9: two registers", x, -2, 0, 1, 0, 0, 0, 0, 0);
        x.registers(1);
        places("9: one register", x, -2, -2, 0, 0, 0, 0, 0, 0);
        x.registers(3);
        places("9: three registers", x, 0, 1, 2, 0, 0, 0, 0, 0);
        for (int wrong : new int[] {-1, -2, 8, 16, Integer.MIN_VALUE, Integer.MAX_VALUE}) {
            Due.is("9: place(" + wrong + ")", x.place(wrong), -1);
        }
    }

    private static void promise9PlaceOrder() {
        // 1 clashes with 0 and 2, so 2 may share with 0; the MOVE from 3 draws 3 to 1.
        ColourDesk x = desk(IN, 0, 0, 0, IN, 1, 0, 0, OUT, 0, 0, 0, IN, 2, 0, 0, OUT, 0, 1, 0, OUT, 0, 2, 0);
        places("9: the least registers", x, 0, 1, 0, 0);
        x.wipe();
        x.put(IN, 3, 0, 0);
        x.put(IN, 0, 0, 0);
        x.put(OUT, 0, 0, 0);
        x.put(MOVE, 1, 3, 0);
        x.put(OUT, 0, 1, 0);
        places("9: a saved MOVE before the least registers", x, 0, 1, 0, 1);
        Due.is("9: saved", x.best(2), 1);
        // 2 clashes with 1; a MOVE each way pulls 0 to 1 once and to 2 twice.
        ColourDesk y = desk(IN, 1, 0, 0, IN, 2, 0, 0, OUT, 0, 1, 0, MOVE, 0, 2, 0, OUT, 0, 0, 0, IN, 1, 0, 0,
            MOVE, 0, 1, 0, OUT, 0, 0, 0, MOVE, 2, 0, 0, OUT, 0, 2, 0);
        places("9: most MOVEs", y, 0, 1, 0);
        Due.is("9: most MOVEs", y.best(2), 2);
        ColourDesk z = desk(IN, 1, 0, 0, IN, 2, 0, 0, OUT, 0, 1, 0, MOVE, 0, 2, 0, OUT, 0, 0, 0, IN, 1, 0, 0,
            MOVE, 0, 1, 0, OUT, 0, 0, 0);
        places("9: as many either way", z, 0, 0, 1);
        Due.is("9: as many either way", z.best(2), 1);
    }

    private static void promise10Best() {
        ColourDesk x = desk(IN, 0, 0, 0, MOVE, 1, 0, 0, MOVE, 2, 2, 0, IN, 0, 0, 0, OUT, 0, 0, 0, OUT, 0, 1, 0,
            OUT, 0, 2, 0, MOVE, 3, 1, 0);
        // Costs: 0 four, 1 three, 2 three, 3 one; 0, 1 and 2 clash, 3 is defined where nothing is alive.
        int[][] want = {{6, 6, 1, 3, 1}, {3, 2, 1, 3, 2}, {0, 0, 2, 3, 3}, {0, 0, 2, 3, 3}};
        for (int k = 1; k <= 4; k++) {
            x.registers(k);
            for (int what = 0; what < 5; what++) {
                Due.is("10: best(" + what + ") with " + k, x.best(what), want[k - 1][what]);
            }
            for (int wrong : new int[] {-1, 5, 6, Integer.MIN_VALUE, Integer.MAX_VALUE}) {
                Due.is("10: best(" + wrong + ")", x.best(wrong), -1);
            }
        }
    }

    private static void promise10Memory() {
        // 0 costs 2, 1 costs 1, 2 costs 1, all clash: one register is left for 0.
        ColourDesk x = desk(OUT, 0, 0, 0, OUT, 0, 0, 0, OUT, 0, 1, 0, OUT, 0, 2, 0);
        x.registers(1);
        Due.is("10: least costs before the least sum", x.best(1), 6);
        Due.is("10: least costs", x.best(0), 2);
        x.registers(2);
        Due.is("10: equal costs, least sum", x.best(1), 2);
        // Memory is chosen before MOVEs: 0 and 1 would save theirs, but 0 is the cheapest to put away.
        ColourDesk y = desk(IN, 0, 0, 0, IN, 2, 0, 0, OUT, 0, 2, 0, OUT, 0, 2, 0, MOVE, 1, 0, 0, OUT, 0, 1, 0);
        y.registers(1);
        Due.is("10: in memory for cost, not for MOVEs", y.best(1), 1);
        Due.is("10: none is saved", y.best(2), 0);
        // Two different ones in memory do not save the MOVE between them, one and the same does.
        ColourDesk z = desk(MOVE, 0, 1, 0, MOVE, 0, 0, 0, OUT, 0, 0, 0, OUT, 0, 2, 0, OUT, 0, 2, 0, OUT, 0, 2, 0,
            OUT, 0, 2, 0, OUT, 0, 2, 0);
        z.registers(1);
        Due.is("10: both in memory", z.best(1), 3);
        Due.is("10: one of two MOVEs is saved", z.best(2), 1);
        Due.is("10: of two", z.best(3), 2);
        Due.is("10: costs of both", z.best(0), 5);
        // A loop's weight decides who goes to memory.
        ColourDesk w = desk(OUT, 0, 1, 0, OUT, 0, 1, 0, OUT, 0, 0, 0, ZERO, 0, 0, 2, OUT, 0, 1, 0);
        w.registers(1);
        Due.is("10: the one outside of the loop", w.best(1), 2);
        Due.is("10: its cost", w.best(0), 3);
    }

    private static void promise11Input() {
        ColourDesk x = desk(IN, 0, 0, 0, OUT, 0, 0, 0, JUMP, 0, 0, 0);
        for (int i = 0; i < 8; i++) {
            Due.is("11: input no " + i, x.input(i == 3 ? Integer.MIN_VALUE : 10 + i), i + 1);
        }
        Due.is("11: the ninth", x.input(99), -1);
        Due.is("11: the ninth again", x.input(98), -1);
        Due.is("11: run", x.run(), ColourDesk.LONG);
        for (int i = 0; i < 8; i++) {
            Due.is("11: output(" + i + ")", x.output(i), i == 3 ? Integer.MIN_VALUE : 10 + i);
        }
        Due.is("11: nothing of the ninth", x.output(8), 0);
        Due.is("11: eight", x.rewind(), 8);
    }

    private static void promise12Arithmetic() {
        int max = Integer.MAX_VALUE;
        int min = Integer.MIN_VALUE;
        int[][] pairs = {{7, 5}, {5, 7}, {5, 5}, {-3, 2}, {max, 1}, {min, 1}, {min, -1}, {max, min}, {min, max}, {max, max}};
        for (int[] p : pairs) {
            for (int k = 1; k <= 4; k++) {
                ColourDesk x = desk(LI, 0, p[0], 0, LI, 1, p[1], 0, ADD, 2, 0, 1, SUB, 3, 0, 1, MUL, 4, 0, 1,
                    LESS, 5, 0, 1, MOVE, 6, 1, 0, OUT, 0, 2, 0, OUT, 0, 3, 0, OUT, 0, 4, 0, OUT, 0, 5, 0, OUT, 0, 6, 0,
                    OUT, 0, 7, 0);
                x.registers(k);
                outputs("12: " + p[0] + " and " + p[1], x, p[0] + p[1], p[0] - p[1], p[0] * p[1],
                    p[0] < p[1] ? 1 : 0, p[1], 0);
            }
        }
    }

    private static void promise12Ways() {
        outputs("12: JUMP", desk(LI, 0, 5, 0, JUMP, 0, 3, 0, OUT, 0, 0, 0, OUT, 0, 0, 0), 5);
        outputs("12: ZERO of 0", desk(ZERO, 0, 0, 3, LI, 1, 1, 0, OUT, 0, 1, 0, OUT, 0, 2, 0), 0);
        outputs("12: ZERO of 1", desk(LI, 0, 1, 0, ZERO, 0, 0, 4, LI, 1, 1, 0, OUT, 0, 1, 0, OUT, 0, 0, 0), 1, 1);
        outputs("12: ZERO of -1", desk(LI, 0, -1, 0, ZERO, 0, 0, 4, OUT, 0, 0, 0, STOP, 0, 0, 0, OUT, 0, 1, 0), -1);
        outputs("12: STOP", desk(OUT, 0, 0, 0, STOP, 0, 0, 0, OUT, 0, 1, 0), 0);
        outputs("12: JUMP to the end", desk(OUT, 0, 0, 0, JUMP, 0, 20, 0, OUT, 0, 1, 0), 0);
        outputs("12: JUMP to n", desk(OUT, 0, 0, 0, JUMP, 0, 3, 0, OUT, 0, 1, 0), 0);
        outputs("12: ZERO to the end", desk(ZERO, 0, 0, 17, OUT, 0, 1, 0));
        outputs("12: no code", desk());
        // Each run begins with zeros again.
        ColourDesk x = desk(OUT, 0, 0, 0, OUT, 0, 1, 0, LI, 0, 9, 0, LI, 1, 9, 0, OUT, 0, 0, 0, OUT, 0, 1, 0);
        x.registers(1);
        outputs("12: first run", x, 0, 0, 9, 9);
        outputs("12: second run", x, 0, 0, 9, 9);
        Due.is("12: one is in memory", x.best(1), 1);
    }

    /** Code that does exactly 4 * rounds + 2 instructions before tail more OUTs. */
    private static ColourDesk counting(int rounds, int tail) {
        ColourDesk x = desk(LI, 0, rounds, 0, LI, 1, 1, 0, SUB, 0, 0, 1, ZERO, 0, 0, 6, OUT, 0, 0, 0, JUMP, 0, 2, 0);
        for (int i = 0; i < tail; i++) {
            x.put(OUT, 0, 2, 0);
        }
        return x;
    }

    private static void promise12Limit() {
        // 2 + 4 * 49 + 2 = 200 instructions with 50 rounds and no tail.
        ColourDesk x = counting(50, 0);
        Due.is("12: at the END after 200", x.run(), ColourDesk.OK);
        Due.is("12: 200", x.spent(1), 200);
        ColourDesk y = counting(50, 1);
        Due.is("12: not at the END after 200", y.run(), ColourDesk.LONG);
        Due.is("12: 200 and no more", y.spent(1), 200);
        Due.is("12: the 201st is not done", y.spent(0), 49);
        ColourDesk z = counting(49, 3);
        z.put(STOP, 0, 0, 0);
        z.put(OUT, 0, 0, 0);
        Due.is("12: STOP as the 200th", z.run(), ColourDesk.OK);
        Due.is("12: STOP counts", z.spent(1), 200);
        ColourDesk w = counting(49, 4);
        w.put(STOP, 0, 0, 0);
        Due.is("12: STOP as the 201st", w.run(), ColourDesk.LONG);
        Due.is("12: not done", w.spent(1), 200);
        ColourDesk v = desk(JUMP, 0, 0, 0);
        Due.is("12: for ever", v.run(), ColourDesk.LONG);
        Due.is("12: for ever", v.spent(1), 200);
    }

    private static void promise12Inputs() {
        ColourDesk x = desk(IN, 0, 0, 0, IN, 1, 0, 0, IN, 2, 0, 0, OUT, 0, 0, 0, OUT, 0, 1, 0, OUT, 0, 2, 0);
        x.input(-7);
        outputs("12: one input", x, -7, 0, 0);
        Due.is("12: three are taken", x.spent(3), 3);
        x.input(8);
        x.input(9);
        x.input(10);
        for (int k = 1; k <= 4; k++) {
            x.registers(k);
            outputs("12: from the first on", x, -7, 8, 9);
        }
        Due.is("12: a run leaves them", x.rewind(), 4);
        outputs("12: no inputs", x, 0, 0, 0);
    }

    private static void promise13Output() {
        ColourDesk x = desk(LI, 1, 1, 0, ADD, 0, 0, 1, OUT, 0, 0, 0, JUMP, 0, 1, 0);
        Due.is("13: none before a run", x.output(0), 0);
        x.run();
        // 1 + 3 * 66 + 1 = 200 instructions.
        Due.is("13: all are counted", x.spent(0), 66);
        for (int k = 0; k < 30; k++) {
            Due.is("13: output(" + k + ")", x.output(k), k + 1);
        }
        for (int k : new int[] {30, 31, 65, 66, -1, Integer.MIN_VALUE, Integer.MAX_VALUE}) {
            Due.is("13: output(" + k + ")", x.output(k), 0);
        }
        x.wipe();
        x.put(LI, 3, 77, 0);
        Due.is("13: still the latest run", x.output(29), 30);
        x.put(OUT, 0, 3, 0);
        outputs("13: the latest run alone", x, 77);
        Due.is("13: nothing of the one before", x.output(1), 0);
        Due.is("13: nothing of the one before", x.output(29), 0);
        x.wipe();
        outputs("13: a run without outputs", x);
        Due.is("13: nothing of the one before", x.output(0), 0);
    }

    private static void promise14Spent() {
        ColourDesk x = desk(IN, 0, 0, 0, OUT, 0, 0, 0, IN, 0, 0, 0, STOP, 0, 0, 0, OUT, 0, 0, 0);
        for (int what = -1; what < 6; what++) {
            Due.is("14: before a run: spent(" + what + ")", x.spent(what), 0);
        }
        x.input(1);
        x.run();
        int[] want = {1, 4, 4, 2};
        for (int turn = 0; turn < 2; turn++) {
            for (int what = 0; what < 4; what++) {
                Due.is("14: spent(" + what + ")", x.spent(what), want[what]);
            }
            for (int wrong : new int[] {-1, 4, 5, Integer.MIN_VALUE, Integer.MAX_VALUE}) {
                Due.is("14: spent(" + wrong + ")", x.spent(wrong), 0);
            }
            // Nothing but a run changes what the latest run spent.
            x.rewind();
            x.registers(1);
            x.put(MOVE, 1, 1, 0);
            x.wipe();
        }
        x.run();
        for (int what = 0; what < 4; what++) {
            Due.is("14: nothing is left of the run before: spent(" + what + ")", x.spent(what), 0);
        }
    }

    private static void took(String what, ColourDesk x, int... want) {
        for (int k = 1; k <= want.length; k++) {
            x.registers(k);
            x.run();
            Due.is("14: took, " + what + ", with " + k, x.spent(2), want[k - 1]);
        }
    }

    private static void promise14Took() {
        // 0 and 1 clash and 0 goes to memory, named once by OUT.
        took("OUT", desk(OUT, 0, 0, 0, OUT, 0, 1, 0), 4, 2);
        // 0 is named three times at once.
        took("ADD", desk(ADD, 0, 0, 0, OUT, 0, 1, 0, OUT, 0, 1, 0, OUT, 0, 1, 0, OUT, 0, 1, 0), 11, 5);
        // A MOVE to itself costs nothing, in memory or not.
        took("MOVE to itself", desk(MOVE, 0, 0, 0, OUT, 0, 0, 0, OUT, 0, 1, 0, OUT, 0, 1, 0, OUT, 0, 1, 0,
            OUT, 0, 1, 0), 7, 5);
        // A MOVE between two in memory is not saved: 1 + 4; then OUT 0 in memory: 3.
        took("MOVE in memory", desk(MOVE, 0, 1, 0, OUT, 0, 0, 0, OUT, 0, 2, 0, OUT, 0, 2, 0, OUT, 0, 2, 0), 11, 4);
        // 0 in memory: IN and ZERO take 3 each, all others 1.
        took("IN, ZERO, JUMP, STOP", desk(IN, 0, 0, 0, ZERO, 0, 0, 2, JUMP, 0, 3, 0, OUT, 0, 1, 0, OUT, 0, 1, 0,
            OUT, 0, 1, 0, STOP, 0, 0, 0), 11, 7);
        took("LI", desk(LI, 0, 1, 0, OUT, 0, 1, 0, OUT, 0, 1, 0), 5, 3);
        took("a loop", desk(JUMP, 0, 0, 0), 200, 200, 200, 200);
        took("a loop of saved MOVEs", desk(MOVE, 0, 1, 0, JUMP, 0, 0, 0), 100, 100, 100, 100);
        took("an instruction that is not done", desk(STOP, 0, 0, 0, OUT, 0, 0, 0, OUT, 0, 1, 0), 1, 1);
        ColourDesk x = desk(MOVE, 0, 1, 0, MOVE, 0, 1, 0, OUT, 0, 0, 0);
        x.run();
        Due.is("14: saved MOVEs are counted as instructions", x.spent(1), 3);
        Due.is("14: saved MOVEs take nothing", x.spent(2), 1);
    }

    private static void promise15Rewind() {
        ColourDesk x = desk(IN, 0, 0, 0, OUT, 0, 0, 0);
        Due.is("15: nothing to empty", x.rewind(), 0);
        x.input(3);
        x.input(4);
        outputs("15: before", x, 3);
        Due.is("15: two", x.rewind(), 2);
        Due.is("15: none is left", x.rewind(), 0);
        Due.is("15: the latest run stays", x.output(0), 3);
        Due.is("15: the latest run stays", x.spent(3), 1);
        outputs("15: no input", x, 0);
        Due.is("15: the first again", x.input(6), 1);
        outputs("15: a new first", x, 6);
        Due.is("15: the code stays", x.wipe(), 2);
    }

    private static void promise16UsedRegisters() {
        // All that the code names is in memory but 7; register 0 is 7's and of those that it doesn't name.
        ColourDesk x = desk(OUT, 0, 7, 0);
        Due.is("16: one", x.best(4), 1);
        x.registers(4);
        Due.is("16: no more than are needed", x.best(4), 1);
        // 0 and 1 share by their MOVE, 2 clashes with both.
        ColourDesk y = desk(IN, 0, 0, 0, IN, 2, 0, 0, MOVE, 1, 0, 0, OUT, 0, 1, 0, OUT, 0, 2, 0);
        y.registers(4);
        Due.is("16: two", y.best(4), 2);
        y.registers(1);
        Due.is("16: one that all the others have", y.best(4), 1);
        Due.is("16: one that an unnamed one has", y.place(7), 0);
        // All eight named, seven in memory.
        ColourDesk z = new ColourDesk();
        for (int t = 0; t < 8; t++) {
            z.put(OUT, 0, t, 0);
        }
        z.registers(1);
        Due.is("16: seven in memory", z.best(1), 127);
        Due.is("16: one register", z.best(4), 1);
        z.registers(4);
        Due.is("16: four in memory", z.best(1), 15);
        Due.is("16: four registers", z.best(4), 4);
        Due.is("16: no code at all", new ColourDesk().best(4), 1);
    }
}
