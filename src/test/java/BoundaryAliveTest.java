/** The boundary cases of promises 5 to 7 and of the Terms that they rest on; the quotes are the document's words. */
public final class BoundaryAliveTest extends Bench {
    public static void main(String[] args) {
        aliveNoSuchInstruction();
        aliveFirstAndLastInstruction();
        aliveNoneAndAll();
        aliveUsesBeforeItDefines();
        aliveThisOneToo();
        aliveNotPastADefinition();
        aliveSomeWay();
        aliveAlongEveryLength();
        aliveBehindTheEnd();
        aliveLooksAtNoRegisters();
        clashesNoSuchTemporary();
        clashesTwoDifferent();
        clashesBothWays();
        clashesDefinedThoughNeverUsed();
        clashesNotWithWhatEndsThere();
        clashesMoveFromThatOther();
        clashesMoveFromAnother();
        clashesMoveOnlyThere();
        clashesBothAliveBeforeZero();
        clashesNoneWithoutCode();
        clashesAllEight();
        costNoSuchTemporary();
        costNotNamed();
        costForEachTime();
        costOneStepLoop();
        costWayOfManySteps();
        costBesideALoop();
        costGreatest();
        queriesChangeNothing();
        Due.end();
    }

    /** 5: "NONE if there is no such instruction". */
    private static void aliveNoSuchInstruction() {
        int[] never = {-1, -2, 20, 21, 32, MIN, MAX};
        for (int n = 0; n <= 20; n++) {
            ColourDesk x = new ColourDesk();
            for (int i = 0; i < n; i++) {
                x.put(OUT, 0, 0, 0);
            }
            Due.is("5: before number n of " + n, x.alive(n, false), -1);
            Due.is("5: behind number n of " + n, x.alive(n, true), -1);
            for (int i : never) {
                Due.is("5: before " + i + " of " + n, x.alive(i, false), -1);
                Due.is("5: behind " + i + " of " + n, x.alive(i, true), -1);
            }
            if (n > 0) {
                Due.is("5: before the last of " + n, x.alive(n - 1, false), 1);
            }
        }
    }

    /** 5: "before instruction i (behind false) or behind it": 0 and 19. */
    private static void aliveFirstAndLastInstruction() {
        ColourDesk x = desk(OUT, 0, 1, 0);
        for (int i = 1; i < 19; i++) {
            x.put(OUT, 0, 2, 0);
        }
        x.put(OUT, 0, 3, 0);
        Due.is("5: before 0", x.alive(0, false), 2 + 4 + 8);
        Due.is("5: behind 0", x.alive(0, true), 4 + 8);
        Due.is("5: before 18", x.alive(18, false), 4 + 8);
        Due.is("5: behind 18", x.alive(18, true), 8);
        Due.is("5: before 19", x.alive(19, false), 8);
        Due.is("5: behind 19", x.alive(19, true), 0);
    }

    /** 5: "The sum of 2^t": none is 0, all eight are 255. */
    private static void aliveNoneAndAll() {
        ColourDesk x = desk(STOP, 0, 0, 0);
        Due.is("5: none before", x.alive(0, false), 0);
        Due.is("5: none behind", x.alive(0, true), 0);
        ColourDesk y = desk(LI, 0, 1, 0);
        for (int t = 0; t < 8; t++) {
            y.put(OUT, 0, t, 0);
        }
        Due.is("5: all behind", y.alive(0, true), 255);
        Due.is("5: all but the defined one before", y.alive(0, false), 254);
        Due.is("5: all before", y.alive(1, false), 255);
    }

    /** 5: "(an instruction uses before it defines)". */
    private static void aliveUsesBeforeItDefines() {
        for (int op = ADD; op <= MOVE; op++) {
            Due.is("5: uses first, op " + op, desk(op, 3, 3, 3).alive(0, false), 8);
        }
        Due.is("5: uses b first", desk(SUB, 3, 2, 3).alive(0, false), 12);
        Due.is("5: uses first, not used behind", desk(ADD, 3, 3, 3).alive(0, true), 0);
    }

    /** 5: "without one before that, this one too, that defines it". */
    private static void aliveThisOneToo() {
        for (int op : new int[] {LI, ADD, SUB, MUL, LESS, MOVE, IN}) {
            ColourDesk x = desk(op, 3, 2, 2, OUT, 0, 3, 0);
            Due.is("5: this one defines it, op " + op, x.alive(0, false) & 8, 0);
            Due.is("5: behind it, it is alive, op " + op, x.alive(0, true), 8);
        }
    }

    /** 5: "without one before that .. that defines it": one on the way. */
    private static void aliveNotPastADefinition() {
        ColourDesk x = desk(JUMP, 0, 1, 0, IN, 3, 0, 0, OUT, 0, 3, 0);
        Due.is("5: one on the way", x.alive(0, false), 0);
        Due.is("5: before the one on the way", x.alive(1, false), 0);
        Due.is("5: past it", x.alive(2, false), 8);
    }

    /** 5: "if some way": one of two is enough, and no way at all is not. */
    private static void aliveSomeWay() {
        ColourDesk x = desk(ZERO, 0, 0, 2, LI, 3, 1, 0, OUT, 0, 3, 0);
        Due.is("5: defined on one way only", x.alive(0, false), 9);
        ColourDesk y = desk(ZERO, 0, 0, 3, LI, 3, 1, 0, JUMP, 0, 4, 0, IN, 3, 0, 0, OUT, 0, 3, 0);
        Due.is("5: defined on both", y.alive(0, false), 1);
        ColourDesk z = desk(JUMP, 0, 2, 0, OUT, 0, 3, 0, STOP, 0, 0, 0);
        Due.is("5: no way", z.alive(0, false), 0);
        Due.is("5: there itself", z.alive(1, false), 8);
        ColourDesk w = desk(LI, 0, 1, 0, ZERO, 0, 0, 3, STOP, 0, 0, 0, OUT, 0, 3, 0);
        Due.is("5: a way that no run takes", w.alive(0, false), 8);
    }

    /** 5: "some way .. along what leads where": backwards over all twenty, so that each step is against the numbers. */
    private static void aliveAlongEveryLength() {
        ColourDesk x = desk(OUT, 0, 5, 0, STOP, 0, 0, 0, JUMP, 0, 0, 0);
        for (int i = 3; i < 20; i++) {
            x.put(JUMP, 0, i - 1, 0);
            Due.is("5: back from " + i, x.alive(i, false), 32);
            Due.is("5: behind " + i, x.alive(i, true), 32);
        }
        // A ring of twenty: the use is behind each one, and the way round is needed to see it from the next.
        ColourDesk ring = desk(OUT, 0, 6, 0);
        for (int i = 1; i < 19; i++) {
            ring.put(JUMP, 0, i + 1, 0);
        }
        ring.put(JUMP, 0, 0, 0);
        for (int i = 0; i < 20; i++) {
            Due.is("5: round from " + i, ring.alive(i, false), 64);
            Due.is("5: round behind " + i, ring.alive(i, true), 64);
        }
    }

    /** 5: "ALIVE BEHIND an instruction if it is alive before one that this leads to": nothing is before the END. */
    private static void aliveBehindTheEnd() {
        Due.is("5: the last one", desk(ADD, 1, 1, 1).alive(0, true), 0);
        Due.is("5: STOP", desk(STOP, 0, 0, 0, OUT, 0, 1, 0).alive(0, true), 0);
        Due.is("5: JUMP to the END", desk(JUMP, 0, 20, 0, OUT, 0, 1, 0).alive(0, true), 0);
        Due.is("5: ZERO to the END as the last", desk(OUT, 0, 1, 0, ZERO, 0, 2, 20).alive(1, true), 0);
    }

    /** 5: registers and runs are not in the definition. */
    private static void aliveLooksAtNoRegisters() {
        ColourDesk x = busy();
        int before = x.alive(2, false);
        int behind = x.alive(2, true);
        Due.is("5: before", before, 3);
        Due.is("5: behind", behind, 7);
        for (int k = 1; k <= 4; k++) {
            x.registers(k);
            x.run();
            Due.is("5: before, with " + k, x.alive(2, false), before);
            Due.is("5: behind, with " + k, x.alive(2, true), behind);
        }
    }

    /** 6: "NONE if there is no such temporary". */
    private static void clashesNoSuchTemporary() {
        for (int t : new int[] {-1, -2, 8, 9, 31, 32, 33, 256, MIN, MAX}) {
            Due.is("6: clashes(" + t + ") without code", new ColourDesk().clashes(t), -1);
            refused("6: clashes(" + t + ")", x -> x.clashes(t), -1, Bench::busy, Bench::full);
        }
        Due.is("6: 0 and 7 are such", desk(OUT, 0, 0, 0, OUT, 0, 7, 0).clashes(0), 128);
        Due.is("6: 7 and 0 are such", desk(OUT, 0, 0, 0, OUT, 0, 7, 0).clashes(7), 1);
    }

    /** 6: "Two different temporaries CLASH". */
    private static void clashesTwoDifferent() {
        for (int t = 0; t < 8; t++) {
            ColourDesk x = desk(ADD, t, t, t, OUT, 0, t, 0, JUMP, 0, 0, 0);
            Due.is("6: not with itself: " + t, x.clashes(t), 0);
        }
    }

    /** 6: "an instruction defines one of them, the other one is alive behind it": either of the two. */
    private static void clashesBothWays() {
        for (int op : new int[] {LI, ADD, SUB, MUL, LESS, MOVE, IN}) {
            ColourDesk x = desk(op, 1, 3, 3, OUT, 0, 1, 0, OUT, 0, 2, 0);
            Due.is("6: the defined one, op " + op, x.clashes(1), 4);
            Due.is("6: the other one, op " + op, x.clashes(2) & 2, 2);
        }
    }

    /** 6: "defines one of them, the other one is alive behind it": the defined one need not be alive. */
    private static void clashesDefinedThoughNeverUsed() {
        ColourDesk x = desk(IN, 1, 0, 0, OUT, 0, 2, 0);
        Due.is("6: never used", x.clashes(1), 4);
        Due.is("6: never used, the other", x.clashes(2), 2);
    }

    /** 6: "alive behind it", not before it: what is used there for the last time may share. */
    private static void clashesNotWithWhatEndsThere() {
        ColourDesk x = desk(LI, 0, 1, 0, LI, 1, 2, 0, ADD, 2, 0, 1, OUT, 0, 2, 0);
        Due.is("6: a and b end", x.clashes(2), 0);
        Due.is("6: a and b clash", x.clashes(0), 2);
    }

    /** 6: "and it is not a MOVE from that other one". */
    private static void clashesMoveFromThatOther() {
        ColourDesk x = desk(IN, 0, 0, 0, MOVE, 1, 0, 0, OUT, 0, 0, 0, OUT, 0, 1, 0);
        Due.is("6: a MOVE's d", x.clashes(1), 0);
        Due.is("6: a MOVE's a", x.clashes(0), 0);
        Due.is("6: least", x.least(), 1);
    }

    /** 6: "not a MOVE from that other one": from a third one, it is. */
    private static void clashesMoveFromAnother() {
        ColourDesk x = desk(IN, 2, 0, 0, IN, 0, 0, 0, MOVE, 1, 2, 0, OUT, 0, 0, 0, OUT, 0, 1, 0);
        Due.is("6: a third one", x.clashes(1), 1);
        Due.is("6: b is not looked at", desk(IN, 0, 0, 0, MOVE, 1, 2, 0, OUT, 0, 0, 0, OUT, 0, 1, 0).clashes(1), 1);
    }

    /** 6: "an instruction": another one that is no such MOVE is enough. */
    private static void clashesMoveOnlyThere() {
        ColourDesk x = desk(IN, 0, 0, 0, MOVE, 1, 0, 0, ADD, 1, 1, 0, OUT, 0, 0, 0, OUT, 0, 1, 0);
        Due.is("6: d is defined again", x.clashes(1), 1);
        ColourDesk y = desk(IN, 0, 0, 0, MOVE, 1, 0, 0, IN, 0, 0, 0, OUT, 0, 0, 0, OUT, 0, 1, 0);
        Due.is("6: a is defined again", y.clashes(0), 2);
        ColourDesk z = desk(OUT, 0, 1, 0, MOVE, 1, 0, 0, OUT, 0, 0, 0, OUT, 0, 1, 0);
        Due.is("6: both are alive before 0", z.clashes(0), 2);
    }

    /** 6: "or if both are alive before instruction 0": not before another one. */
    private static void clashesBothAliveBeforeZero() {
        ColourDesk x = desk(OUT, 0, 1, 0, OUT, 0, 2, 0, OUT, 0, 5, 0);
        Due.is("6: three before 0: 1", x.clashes(1), 4 + 32);
        Due.is("6: three before 0: 2", x.clashes(2), 2 + 32);
        Due.is("6: three before 0: 5", x.clashes(5), 2 + 4);
        Due.is("6: two before the only one", desk(ADD, 0, 1, 2).clashes(1), 4);
        Due.is("6: one before 0", desk(OUT, 0, 1, 0, OUT, 0, 1, 0).clashes(1), 0);
        ColourDesk y = desk(STOP, 0, 0, 0, OUT, 0, 1, 0, OUT, 0, 2, 0);
        Due.is("6: before 1 alone", y.clashes(1), 0);
        // 1 is alive before 0, 2 is alive before 1 and behind nothing that defines 1.
        ColourDesk z = desk(ZERO, 0, 1, 2, IN, 2, 0, 0, OUT, 0, 2, 0);
        Due.is("6: both before 0", z.clashes(1), 4);
        ColourDesk w = desk(IN, 2, 0, 0, OUT, 0, 1, 0, OUT, 0, 2, 0);
        Due.is("6: one before 0, the other defined there", w.clashes(2), 2);
    }

    /** 6: "alive before instruction 0": without code there is no such instruction. */
    private static void clashesNoneWithoutCode() {
        ColourDesk x = full();
        Due.is("6: with code", x.clashes(0), 254);
        x.wipe();
        for (int t = 0; t < 8; t++) {
            Due.is("6: without code", x.clashes(t), 0);
        }
    }

    /** 6: "The sum of 2^u": all seven others. */
    private static void clashesAllEight() {
        ColourDesk x = full();
        for (int t = 0; t < 8; t++) {
            Due.is("6: all the others: " + t, x.clashes(t), 255 - (1 << t));
        }
    }

    /** 7: "NONE if there is none". */
    private static void costNoSuchTemporary() {
        for (int t : new int[] {-1, -2, 8, 9, 31, 32, 33, 256, MIN, MAX}) {
            Due.is("7: cost(" + t + ") without code", new ColourDesk().cost(t), -1);
            refused("7: cost(" + t + ")", x -> x.cost(t), -1, Bench::busy, Bench::full);
        }
        Due.is("7: 0 is one", desk(OUT, 0, 0, 0).cost(0), 1);
        Due.is("7: 7 is one", desk(OUT, 0, 7, 0).cost(7), 1);
    }

    /** 7: "the sum of the weights of the instructions, for each time that it is named": none is 0. */
    private static void costNotNamed() {
        ColourDesk x = desk(LI, 0, 7, 7, JUMP, 7, 0, 7);
        Due.is("7: not named", x.cost(7), 0);
        Due.is("7: no code", new ColourDesk().cost(7), 0);
    }

    /** 7: "(as d, a or b, twice if it is twice)". */
    private static void costForEachTime() {
        for (int op = ADD; op <= LESS; op++) {
            Due.is("7: as d", desk(op, 4, 0, 1).cost(4), 1);
            Due.is("7: as a", desk(op, 0, 4, 1).cost(4), 1);
            Due.is("7: as b", desk(op, 0, 1, 4).cost(4), 1);
            Due.is("7: as d and a", desk(op, 4, 4, 1).cost(4), 2);
            Due.is("7: as d and b", desk(op, 4, 1, 4).cost(4), 2);
            Due.is("7: as a and b", desk(op, 1, 4, 4).cost(4), 2);
            Due.is("7: as all three", desk(op, 4, 4, 4).cost(4), 3);
        }
        Due.is("7: MOVE to itself", desk(MOVE, 4, 4, 4).cost(4), 2);
        Due.is("7: MOVE", desk(MOVE, 4, 0, 4).cost(4), 1);
        Due.is("7: LI", desk(LI, 4, 4, 4).cost(4), 1);
        Due.is("7: IN", desk(IN, 4, 4, 4).cost(4), 1);
        Due.is("7: OUT", desk(OUT, 4, 4, 4).cost(4), 1);
        Due.is("7: ZERO", desk(ZERO, 4, 4, 4).cost(4), 1);
        Due.is("7: JUMP", desk(JUMP, 4, 4, 4).cost(4), 0);
        Due.is("7: STOP", desk(STOP, 4, 4, 4).cost(4), 0);
    }

    /** 7: "a way of one step or more leads from it to itself": one step, and no step at all is none. */
    private static void costOneStepLoop() {
        Due.is("7: one step", desk(ZERO, 0, 4, 0).cost(4), 10);
        Due.is("7: no step", desk(ZERO, 0, 4, 1).cost(4), 1);
        Due.is("7: no step, OUT", desk(OUT, 0, 4, 0).cost(4), 1);
        ColourDesk x = desk(OUT, 0, 4, 0, ZERO, 0, 5, 1);
        Due.is("7: the one before it", x.cost(4), 1);
        Due.is("7: itself", x.cost(5), 10);
    }

    /** 7: "or more": two, and all twenty. */
    private static void costWayOfManySteps() {
        Due.is("7: two steps", desk(OUT, 0, 4, 0, JUMP, 0, 0, 0).cost(4), 10);
        ColourDesk x = new ColourDesk();
        for (int i = 0; i < 19; i++) {
            x.put(OUT, 0, i % 8, 0);
        }
        Due.is("7: not yet a loop", x.cost(2), 3);
        x.put(JUMP, 0, 0, 0);
        Due.is("7: twenty steps", x.cost(2), 30);
        Due.is("7: twenty steps", x.cost(3), 20);
        // Against the numbers: each JUMP goes one back, and the first one goes to the last.
        ColourDesk y = desk(ZERO, 0, 6, 19);
        for (int i = 1; i < 20; i++) {
            y.put(JUMP, 0, i - 1, 0);
        }
        Due.is("7: twenty steps back", y.cost(6), 10);
    }

    /** 7: "Its WEIGHT is 10 in a loop, else 1": before it, behind it, and jumped over within it. */
    private static void costBesideALoop() {
        ColourDesk x = desk(OUT, 0, 0, 0, ZERO, 0, 1, 5, JUMP, 0, 4, 0, OUT, 0, 2, 0, JUMP, 0, 1, 0, OUT, 0, 3, 0);
        Due.is("7: before the loop", x.cost(0), 1);
        Due.is("7: in the loop", x.cost(1), 10);
        Due.is("7: jumped over, but led back", x.cost(2), 1);
        Due.is("7: behind the loop", x.cost(3), 1);
        ColourDesk y = desk(OUT, 0, 4, 0, STOP, 0, 0, 0, JUMP, 0, 0, 0);
        Due.is("7: STOP leads out of it", y.cost(4), 1);
        ColourDesk z = desk(OUT, 0, 4, 0, ZERO, 0, 4, 0, ZERO, 0, 4, 0);
        Due.is("7: in two loops", z.cost(4), 30);
        Due.is("7: a JUMP to the END is no loop", desk(OUT, 0, 4, 0, JUMP, 0, 2, 0).cost(4), 1);
        Due.is("7: a loop that no run comes to", desk(STOP, 0, 0, 0, OUT, 0, 4, 0, JUMP, 0, 1, 0).cost(4), 10);
    }

    /** 7: "the sum": three times in each of nineteen, and once in the one that closes the loop, is the most. */
    private static void costGreatest() {
        ColourDesk x = new ColourDesk();
        for (int i = 0; i < 19; i++) {
            x.put(MUL, 4, 4, 4);
        }
        Due.is("7: without the loop", x.cost(4), 57);
        x.put(ZERO, 0, 4, 0);
        Due.is("7: the most", x.cost(4), 580);
    }

    /** 5, 6, 7: a question answers, and changes nothing. */
    private static void queriesChangeNothing() {
        refused("5: alive(0, false)", x -> x.alive(0, false), 0, Bench::busy, Bench::full);
        refused("5: alive(20, true)", x -> x.alive(20, true), -1, ColourDesk::new, Bench::busy, Bench::full);
        refused("5: alive(-1, false)", x -> x.alive(-1, false), -1, ColourDesk::new, Bench::busy, Bench::full);
        refused("6: clashes(4)", x -> x.clashes(4), 0, ColourDesk::new, Bench::busy);
        refused("7: cost(7)", x -> x.cost(7), 21, Bench::full);
    }
}
