/** The boundary cases that the document's Terms name about instructions, a test for each; the quotes are its words. */
public final class BoundaryTermsTest extends Bench {
    public static void main(String[] args) {
        upToTwentyInstructions();
        temporariesZeroToSeven();
        liAnyInt();
        lessOneOrZero();
        jumpZeroToTwenty();
        zeroZeroToTwenty();
        zeroIfZero();
        arithmeticWraps();
        definedAndUsedWhereTemporaries();
        leadsToNext();
        jumpToItsTargetInstead();
        zeroToBoth();
        stopToNone();
        endIsNumberN();
        endIsAllAboveN();
        endIsTwentyWhenFull();
        endWhereNothingIsAfterWipe();
        endMovesWithTheCode();
        Due.end();
    }

    /** "up to 20 INSTRUCTIONS": the twentieth is one like the others. */
    private static void upToTwentyInstructions() {
        ColourDesk x = new ColourDesk();
        for (int i = 0; i < 19; i++) {
            Due.is("up to 20: put", x.put(LI, 0, i, 0), i);
        }
        Due.is("up to 20: the twentieth", x.put(OUT, 0, 0, 0), 19);
        Due.is("up to 20: it uses", x.alive(19, false), 1);
        Due.is("up to 20: it costs", x.cost(0), 20);
        outputs("up to 20: it is done", x, 18);
        Due.is("up to 20: all are done", x.spent(1), 20);
    }

    /** "TEMPORARIES 0..7": the first and the last one can be named as d, a and b, and hold a value of their own. */
    private static void temporariesZeroToSeven() {
        ColourDesk x = desk(LI, 0, 5, 0, LI, 7, 3, 0, SUB, 0, 0, 7, SUB, 7, 0, 7, OUT, 0, 0, 0, OUT, 0, 7, 0);
        outputs("0..7", x, 2, -1);
        Due.is("0..7: 0 is 2^0", x.alive(4, false), 1 + 128);
        Due.is("0..7: 7 is 2^7", x.alive(5, false), 128);
        Due.is("0..7: they clash", x.clashes(0), 128);
        ColourDesk all = new ColourDesk();
        for (int t = 0; t < 8; t++) {
            all.put(LI, t, 10 * t + 1, 0);
        }
        for (int t = 7; t >= 0; t--) {
            all.put(OUT, 0, t, 0);
        }
        outputs("0..7: eight values", all, 71, 61, 51, 41, 31, 21, 11, 1);
    }

    /** "LI d a (any int)". */
    private static void liAnyInt() {
        int[] some = {MIN, MIN + 1, -65536, -21, -1, 0, 7, 8, 20, 21, 255, 65535, MAX - 1, MAX};
        for (int a : some) {
            ColourDesk x = desk(LI, 3, a, 0, OUT, 0, 3, 0);
            outputs("any int " + a, x, a);
        }
    }

    /** "LESS d a b (1 or 0)": equal ones are not less, and no difference runs over. */
    private static void lessOneOrZero() {
        int[][] rows = {{0, 0, 0}, {0, 1, 1}, {1, 0, 0}, {-1, 0, 1}, {0, -1, 0}, {MIN, MAX, 1}, {MAX, MIN, 0},
            {MIN, MIN, 0}, {MAX, MAX, 0}, {MIN, 1, 1}, {1, MIN, 0}, {-2, MAX, 1}, {MAX, -2, 0}};
        for (int[] row : rows) {
            ColourDesk x = desk(LI, 0, row[0], 0, LI, 1, row[1], 0, LESS, 2, 0, 1, OUT, 0, 2, 0);
            outputs("1 or 0: " + row[0] + " < " + row[1], x, row[2]);
        }
    }

    /** "JUMP to instruction a (0..20)". */
    private static void jumpZeroToTwenty() {
        refused("JUMP -1", x -> x.put(JUMP, 0, -1, 0), -1, ColourDesk::new, Bench::busy);
        refused("JUMP 21", x -> x.put(JUMP, 0, 21, 0), -1, ColourDesk::new, Bench::busy);
        ColourDesk first = desk(JUMP, 0, 0, 0);
        Due.is("JUMP 0 from 0", first.run(), ColourDesk.LONG);
        ColourDesk back = desk(ZERO, 0, 0, 3, OUT, 0, 0, 0, STOP, 0, 0, 0, LI, 0, 1, 0, JUMP, 0, 0, 0);
        outputs("JUMP 0", back, 1);
        outputs("JUMP 20", desk(JUMP, 0, 20, 0, OUT, 0, 0, 0));
    }

    /** "ZERO a b: if a is 0 goes on at b (0..20)". */
    private static void zeroZeroToTwenty() {
        refused("ZERO to -1", x -> x.put(ZERO, 0, 0, -1), -1, ColourDesk::new, Bench::busy);
        refused("ZERO to 21", x -> x.put(ZERO, 0, 0, 21), -1, ColourDesk::new, Bench::busy);
        Due.is("ZERO to 0", desk(ZERO, 0, 0, 0).run(), ColourDesk.LONG);
        outputs("ZERO to 20", desk(ZERO, 0, 0, 20, OUT, 0, 0, 0));
    }

    /** "ZERO a b: if a is 0": nothing but 0 is, also not what ends in zeros. */
    private static void zeroIfZero() {
        outputs("ZERO of 0", desk(LI, 0, 0, 0, ZERO, 0, 0, 3, OUT, 0, 0, 0));
        for (int v : new int[] {1, -1, 2, 256, 65536, MIN, MAX}) {
            outputs("ZERO of " + v, desk(LI, 0, v, 0, ZERO, 0, 0, 3, OUT, 0, 0, 0), v);
        }
    }

    private static void wraps(int op, int a, int b, int want) {
        ColourDesk x = desk(LI, 0, a, 0, LI, 1, b, 0, op, 2, 0, 1, OUT, 0, 2, 0);
        outputs("wraps: op " + op + " of " + a + " and " + b, x, want);
    }

    /** "(arithmetic wraps)". */
    private static void arithmeticWraps() {
        wraps(ADD, MAX, 1, MIN);
        wraps(ADD, MIN, -1, MAX);
        wraps(ADD, MIN, MIN, 0);
        wraps(ADD, MAX, MAX, -2);
        wraps(SUB, MIN, 1, MAX);
        wraps(SUB, MAX, -1, MIN);
        wraps(SUB, 0, MIN, MIN);
        wraps(MUL, MIN, -1, MIN);
        wraps(MUL, MAX, 2, -2);
        wraps(MUL, 65536, 65536, 0);
        wraps(MUL, 46341, 46341, -2147479015);
        wraps(MUL, MAX, MAX, 1);
    }

    /** "d is DEFINED, a and b are USED where they are temporaries": numbers and targets are none, nor what is not there. */
    private static void definedAndUsedWhereTemporaries() {
        ColourDesk x = desk(LI, 0, 1, 1, MOVE, 0, 0, 1, JUMP, 1, 3, 1, ZERO, 1, 0, 1, OUT, 1, 0, 1, IN, 0, 1, 1,
            STOP, 1, 1, 1);
        for (int i = 0; i < 7; i++) {
            Due.is("where temporaries: alive(" + i + ")", x.alive(i, false) & 2, 0);
        }
        Due.is("where temporaries: cost(1)", x.cost(1), 0);
        Due.is("where temporaries: clashes(1)", x.clashes(1), 0);
        // What a MOVE, a JUMP, a ZERO or an OUT would define if its unread d counted would not be alive before it.
        for (int op : new int[] {JUMP, ZERO, OUT, STOP}) {
            ColourDesk y = desk(op, 1, 2, 2, JUMP, 0, 2, 0, OUT, 0, 1, 0);
            int rest = op == STOP ? 0 : 2;
            Due.is("where temporaries: op " + op + " defines nothing", y.alive(0, false) & 2, rest);
        }
    }

    /** "An instruction LEADS to the next one". */
    private static void leadsToNext() {
        for (int op : new int[] {LI, ADD, SUB, MUL, LESS, MOVE, OUT, IN}) {
            ColourDesk x = desk(op, 1, 1, 1, OUT, 0, 7, 0);
            Due.is("the next one: op " + op, x.alive(0, true), 128);
        }
    }

    /** "JUMP to its target instead". */
    private static void jumpToItsTargetInstead() {
        ColourDesk x = desk(JUMP, 0, 2, 0, OUT, 0, 1, 0, OUT, 0, 2, 0);
        Due.is("JUMP: behind", x.alive(0, true), 4);
        outputs("JUMP: run", x, 0);
        Due.is("JUMP to the next", desk(JUMP, 0, 1, 0, OUT, 0, 1, 0).alive(0, true), 2);
        Due.is("JUMP to itself", desk(JUMP, 0, 0, 0, OUT, 0, 1, 0).alive(0, true), 0);
    }

    /** "ZERO to both". */
    private static void zeroToBoth() {
        ColourDesk x = desk(ZERO, 0, 0, 3, OUT, 0, 1, 0, STOP, 0, 0, 0, OUT, 0, 2, 0);
        Due.is("ZERO: behind", x.alive(0, true), 6);
        Due.is("ZERO: the same twice", desk(ZERO, 0, 0, 1, OUT, 0, 1, 0).alive(0, true), 2);
        Due.is("ZERO: one is the END", desk(ZERO, 0, 0, 20, OUT, 0, 1, 0).alive(0, true), 2);
        Due.is("ZERO: the other is the END", desk(OUT, 0, 1, 0, ZERO, 0, 0, 0).alive(1, true), 3);
    }

    /** "STOP to none". */
    private static void stopToNone() {
        ColourDesk x = desk(STOP, 0, 1, 1, OUT, 0, 1, 0, JUMP, 0, 0, 0);
        Due.is("STOP: behind", x.alive(0, true), 0);
        Due.is("STOP: before", x.alive(0, false), 0);
        Due.is("STOP: in no loop", x.cost(1), 1);
        outputs("STOP: run", x);
    }

    /** "number n, the number of instructions, .. the END, where nothing is". */
    private static void endIsNumberN() {
        ColourDesk x = desk(OUT, 0, 1, 0, JUMP, 0, 2, 0);
        Due.is("n: behind a JUMP there", x.alive(1, true), 0);
        outputs("n: a JUMP there", x, 0);
        Due.is("n: two were done", x.spent(1), 2);
        ColourDesk y = desk(ZERO, 0, 0, 2, OUT, 0, 0, 0);
        outputs("n: a ZERO there", y);
        Due.is("n: one was done", y.spent(1), 1);
        ColourDesk z = desk(OUT, 0, 3, 0);
        Due.is("n: behind the last one", z.alive(0, true), 0);
        Due.is("n: no instruction", z.alive(1, false), -1);
        outputs("n: behind the last one", z, 0);
        outputs("n is 0", new ColourDesk());
    }

    /** "and all above it are the END". */
    private static void endIsAllAboveN() {
        for (int goal = 3; goal <= 20; goal++) {
            ColourDesk x = desk(JUMP, 0, goal, 0, OUT, 0, 1, 0);
            Due.is("above n: behind a JUMP to " + goal, x.alive(0, true), 0);
            outputs("above n: a JUMP to " + goal, x);
            Due.is("above n: one was done", x.spent(1), 1);
            ColourDesk y = desk(ZERO, 0, 0, goal, OUT, 0, 1, 0);
            Due.is("above n: behind a ZERO to " + goal, y.alive(0, true), 2);
            outputs("above n: a ZERO to " + goal, y);
        }
    }

    /** "number n": with 20 instructions 19 is one, and 20 is the END. */
    private static void endIsTwentyWhenFull() {
        for (int goal = 19; goal <= 20; goal++) {
            ColourDesk x = desk(JUMP, 0, goal, 0);
            for (int i = 1; i < 20; i++) {
                x.put(OUT, 0, 7, 0);
            }
            Due.is("20: behind a JUMP to " + goal, x.alive(0, true), goal == 19 ? 128 : 0);
            Due.is("20: behind the last one", x.alive(19, true), 0);
            Due.is("20: a run", x.run(), ColourDesk.OK);
            Due.is("20: how many were done", x.spent(1), goal == 19 ? 2 : 1);
        }
    }

    /** "the END, where nothing is": not even what was there before a wipe. */
    private static void endWhereNothingIsAfterWipe() {
        ColourDesk x = new ColourDesk();
        for (int i = 0; i < 20; i++) {
            x.put(OUT, 0, 6, 0);
        }
        x.run();
        x.wipe();
        Due.is("after wipe: alive(0)", x.alive(0, false), -1);
        outputs("after wipe: no code", x);
        x.put(JUMP, 0, 5, 0);
        Due.is("after wipe: behind a JUMP", x.alive(0, true), 0);
        Due.is("after wipe: cost", x.cost(6), 0);
        Due.is("after wipe: clashes", x.clashes(6), 0);
        outputs("after wipe: a JUMP", x);
        x.put(ZERO, 0, 0, 19);
        Due.is("after wipe: behind a ZERO", x.alive(1, true), 0);
        Due.is("after wipe: no more than two", x.alive(2, false), -1);
        // A loop must not keep alive what was so in the code of before.
        x.wipe();
        x.put(OUT, 0, 6, 0);
        Due.is("after wipe: alive", x.alive(0, false), 64);
        x.wipe();
        x.put(JUMP, 0, 0, 0);
        Due.is("after wipe: before a loop", x.alive(0, false), 0);
        Due.is("after wipe: behind a loop", x.alive(0, true), 0);
    }

    /** "number n, the number of instructions": one more instruction makes the END's first number its own. */
    private static void endMovesWithTheCode() {
        ColourDesk x = desk(JUMP, 0, 2, 0, STOP, 0, 0, 0);
        Due.is("one more: before", x.alive(0, true), 0);
        outputs("one more: before", x);
        x.put(OUT, 0, 4, 0);
        Due.is("one more: behind", x.alive(0, true), 16);
        outputs("one more: run", x, 0);
        x.put(JUMP, 0, 0, 0);
        Due.is("one more: a loop", x.cost(4), 10);
        Due.is("one more: for ever", x.run(), ColourDesk.LONG);
    }
}
