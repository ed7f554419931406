/** The boundary cases of promises 11 to 15, a test for each sentence; the quotes are the document's words. */
public final class BoundaryRunTest extends Bench {
    public static void main(String[] args) {
        inputAnyInt();
        inputHowManyThereAre();
        inputWhenThereAreEight();
        inputLeavesTheRest();
        runAllZeroAtFirst();
        runFromInstructionZero();
        runComesToTheEnd();
        runHasDoneStop();
        runStopCounts();
        runEndAtTwoHundred();
        runStopAtTwoHundred();
        runLong();
        runAfterALongOne();
        runInFromTheFirstOn();
        runInNoneLeft();
        runInAfterARefusedOne();
        runDoesNotDependOnPlaces();
        runChangesNothingElse();
        outputNoneOfTheseNumbers();
        outputBeforeAnyRun();
        outputThirtyAreKept();
        outputOfTheLatestRun();
        outputStays();
        spentOthers();
        spentBeforeAnyRun();
        spentOutputsBeyondTheKept();
        spentInstructions();
        spentTookOneForEach();
        spentTookNothingForSaved();
        spentTookTwoMoreForMemory();
        spentTookAsItWasThen();
        spentInputsBeyondTheLast();
        spentOfTheLatestRun();
        rewindOfNothing();
        rewindOfAll();
        rewindLeavesTheRest();
        Due.end();
    }

    /** Takes and gives eight inputs and one more. */
    private static ColourDesk echo() {
        ColourDesk x = new ColourDesk();
        for (int i = 0; i < 9; i++) {
            x.put(IN, 0, 0, 0);
            x.put(OUT, 0, 0, 0);
        }
        return x;
    }

    /** 11: "Appends an int": any. */
    private static void inputAnyInt() {
        int[] some = {MIN, -1, 0, 1, 255, 256, 65536, MAX};
        ColourDesk x = echo();
        for (int v : some) {
            x.input(v);
        }
        outputs("11: any int", x, MIN, -1, 0, 1, 255, 256, 65536, MAX, 0);
    }

    /** 11: "how many there are". */
    private static void inputHowManyThereAre() {
        ColourDesk x = new ColourDesk();
        for (int i = 1; i <= 8; i++) {
            Due.is("11: how many", x.input(0), i);
        }
        Due.is("11: eight are there", x.rewind(), 8);
    }

    private static ColourDesk eightInputs() {
        ColourDesk x = echo();
        for (int i = 0; i < 8; i++) {
            x.input(50 + i);
        }
        return x;
    }

    /** 11: "NONE, and nothing changes, if there are 8". */
    private static void inputWhenThereAreEight() {
        for (int v : new int[] {0, 1, 99, -1, MIN, MAX}) {
            refused("11: input(" + v + ")", x -> x.input(v), -1, Bench::full, BoundaryRunTest::eightInputs);
        }
        ColourDesk x = eightInputs();
        Due.is("11: the ninth", x.input(1), -1);
        Due.is("11: the tenth", x.input(2), -1);
        outputs("11: the eight of before", x, 50, 51, 52, 53, 54, 55, 56, 57, 0);
        Due.is("11: eight", x.rewind(), 8);
        Due.is("11: there is room again", x.input(3), 1);
    }

    /** 11: "Appends an int to the inputs", and no more. */
    private static void inputLeavesTheRest() {
        ColourDesk x = busy();
        Seen before = Seen.of(x);
        Due.is("11: the third", x.input(77), 3);
        before.same("11: nothing else", Seen.of(x));
    }

    /** 12: "with all registers and all memory 0 at first": in each run, in each number of registers. */
    private static void runAllZeroAtFirst() {
        for (int k = 1; k <= 4; k++) {
            ColourDesk x = new ColourDesk();
            for (int t = 0; t < 8; t++) {
                x.put(OUT, 0, t, 0);
            }
            for (int t = 0; t < 8; t++) {
                x.put(LI, t, 9 + t, 0);
            }
            x.registers(k);
            outputs("12: the first run, with " + k, x, 0, 0, 0, 0, 0, 0, 0, 0);
            outputs("12: the second run, with " + k, x, 0, 0, 0, 0, 0, 0, 0, 0);
            x.registers(5 - k);
            outputs("12: with other registers than " + k, x, 0, 0, 0, 0, 0, 0, 0, 0);
        }
    }

    /** 12: "from instruction 0 on". */
    private static void runFromInstructionZero() {
        ColourDesk x = desk(LI, 0, 4, 0, OUT, 0, 0, 0, STOP, 0, 0, 0, OUT, 0, 1, 0);
        outputs("12: from 0 on", x, 4);
        outputs("12: from 0 on again", x, 4);
    }

    /** 12: "OK when it comes to the END": at once, by the last one, by JUMP, by ZERO. */
    private static void runComesToTheEnd() {
        outputs("12: no code", new ColourDesk());
        outputs("12: the last one", desk(OUT, 0, 0, 0), 0);
        outputs("12: JUMP to n", desk(JUMP, 0, 1, 0));
        outputs("12: JUMP to 20", desk(JUMP, 0, 20, 0));
        outputs("12: ZERO to n", desk(ZERO, 0, 0, 1));
        outputs("12: ZERO to 20", desk(ZERO, 0, 0, 20));
        outputs("12: ZERO that goes to the next", desk(LI, 0, 1, 0, ZERO, 0, 0, 0));
        ColourDesk x = full();
        x.wipe();
        Due.is("12: wiped", x.run(), ColourDesk.OK);
    }

    /** 12: "or has done STOP". */
    private static void runHasDoneStop() {
        outputs("12: STOP at once", desk(STOP, 0, 0, 0, OUT, 0, 0, 0));
        outputs("12: STOP between", desk(OUT, 0, 0, 0, STOP, 0, 0, 0, OUT, 0, 0, 0), 0);
        outputs("12: STOP in a loop", desk(OUT, 0, 0, 0, STOP, 0, 0, 0, JUMP, 0, 0, 0), 0);
        outputs("12: STOP as the last", desk(OUT, 0, 0, 0, STOP, 0, 0, 0), 0);
    }

    /** 12: "STOP (which counts)". */
    private static void runStopCounts() {
        ColourDesk x = desk(STOP, 0, 0, 0);
        x.run();
        spent("12: STOP", x, 0, 1, 1, 0);
        ColourDesk y = desk(LI, 0, 1, 0, STOP, 0, 0, 0, OUT, 0, 0, 0);
        y.run();
        spent("12: LI and STOP", y, 0, 2, 2, 0);
        ColourDesk z = desk(JUMP, 0, 20, 0);
        z.run();
        spent("12: the END does not count", z, 0, 1, 1, 0);
    }

    /** Does as many instructions as are asked for, from 6 on, and comes then to the END. */
    private static ColourDesk doing(int instructions) {
        // Two, three for each round, and what is left in OUTs.
        int rounds = (instructions - 3) / 3;
        ColourDesk x = desk(LI, 0, rounds, 0, LI, 1, 1, 0, ZERO, 0, 0, 5, SUB, 0, 0, 1, JUMP, 0, 2, 0);
        for (int i = 3 + 3 * rounds; i < instructions; i++) {
            x.put(OUT, 0, 1, 0);
        }
        return x;
    }

    private static void ends(String what, ColourDesk x, int answer, int instructions) {
        Due.is(what + ": run", x.run(), answer);
        Due.is(what + ": instructions", x.spent(1), instructions);
    }

    /** 12: "LONG if neither is so after 200 instructions": at the END after 199, 200 and 201. */
    private static void runEndAtTwoHundred() {
        ends("12: 199", doing(199), ColourDesk.OK, 199);
        ends("12: 200", doing(200), ColourDesk.OK, 200);
        ends("12: 201", doing(201), ColourDesk.LONG, 200);
        ends("12: 202", doing(202), ColourDesk.LONG, 200);
        ColourDesk x = doing(200);
        x.put(JUMP, 0, 20, 0);
        ends("12: a JUMP to the END is the 201st", x, ColourDesk.LONG, 200);
    }

    /** 12: "has done STOP (which counts); LONG if neither is so after 200": STOP as the 200th and the 201st. */
    private static void runStopAtTwoHundred() {
        ColourDesk x = doing(199);
        x.put(STOP, 0, 0, 0);
        x.put(OUT, 0, 0, 0);
        ends("12: STOP is the 200th", x, ColourDesk.OK, 200);
        ColourDesk y = doing(200);
        y.put(STOP, 0, 0, 0);
        ends("12: STOP is the 201st", y, ColourDesk.LONG, 200);
    }

    /** 12: "LONG": the 200 that were done count, and the 201st does nothing. */
    private static void runLong() {
        ends("12: JUMP to itself", desk(JUMP, 0, 0, 0), ColourDesk.LONG, 200);
        ends("12: ZERO to itself", desk(ZERO, 0, 0, 0), ColourDesk.LONG, 200);
        ColourDesk x = desk(OUT, 0, 0, 0, JUMP, 0, 0, 0);
        ends("12: OUT and JUMP", x, ColourDesk.LONG, 200);
        Due.is("12: a hundred outputs", x.spent(0), 100);
        ColourDesk y = desk(IN, 0, 0, 0, JUMP, 0, 0, 0);
        ends("12: IN and JUMP", y, ColourDesk.LONG, 200);
        Due.is("12: a hundred inputs", y.spent(3), 100);
        ColourDesk z = doing(200);
        z.run();
        int outputs = z.spent(0);
        z.put(OUT, 0, 1, 0);
        ends("12: an OUT as the 201st", z, ColourDesk.LONG, 200);
        Due.is("12: it is not done", z.spent(0), outputs);
    }

    /** 12: a run after one that was LONG begins anew. */
    private static void runAfterALongOne() {
        ColourDesk x = desk(OUT, 0, 0, 0, LI, 0, 5, 0, JUMP, 0, 1, 0);
        ends("12: first", x, ColourDesk.LONG, 200);
        ends("12: second", x, ColourDesk.LONG, 200);
        spent("12: second", x, 1, 200, 200, 0);
        Due.is("12: 0 again", x.output(0), 0);
        x.wipe();
        ends("12: no code", x, ColourDesk.OK, 0);
    }

    /** 12: "IN takes the next of the inputs, from the first on in each run". */
    private static void runInFromTheFirstOn() {
        ColourDesk x = desk(IN, 0, 0, 0, OUT, 0, 0, 0, IN, 0, 0, 0, OUT, 0, 0, 0);
        x.input(5);
        x.input(6);
        x.input(7);
        outputs("12: the first run", x, 5, 6);
        outputs("12: the second run", x, 5, 6);
        Due.is("12: they are still there", x.rewind(), 3);
    }

    /** 12: "and 0 if there is none left". */
    private static void runInNoneLeft() {
        ColourDesk x = desk(LI, 0, 8, 0, IN, 0, 0, 0, OUT, 0, 0, 0, LI, 0, 8, 0, IN, 0, 0, 0, OUT, 0, 0, 0);
        outputs("12: none at all", x, 0, 0);
        x.input(3);
        outputs("12: one", x, 3, 0);
        x.input(4);
        outputs("12: two", x, 3, 4);
        x.rewind();
        outputs("12: none left after rewind", x, 0, 0);
        x.input(9);
        outputs("12: none left of those of before", x, 9, 0);
        outputs("12: eight and none left", eightInputs(), 50, 51, 52, 53, 54, 55, 56, 57, 0);
    }

    /** 12: an input that was refused is never taken. */
    private static void runInAfterARefusedOne() {
        ColourDesk x = eightInputs();
        x.input(1234);
        outputs("12: eight, and 0", x, 50, 51, 52, 53, 54, 55, 56, 57, 0);
        Due.is("12: nine were taken", x.spent(3), 9);
    }

    /** 12: "what it gives does not depend on where the temporaries are". */
    private static void runDoesNotDependOnPlaces() {
        for (int k = 1; k <= 4; k++) {
            ColourDesk x = desk(IN, 0, 0, 0, IN, 1, 0, 0, IN, 2, 0, 0, MOVE, 3, 0, 0, ADD, 0, 0, 1, SUB, 4, 3, 2,
                LESS, 5, 4, 0, MOVE, 6, 5, 0, MUL, 7, 6, 4, OUT, 0, 0, 0, OUT, 0, 3, 0, OUT, 0, 4, 0, OUT, 0, 7, 0,
                OUT, 0, 2, 0, OUT, 0, 5, 0);
            x.input(10);
            x.input(20);
            x.input(30);
            x.registers(k);
            outputs("12: with " + k, x, 30, 10, -20, -20, 30, 1);
        }
    }

    /** 12: "Runs the code": code, registers and inputs are as they were. */
    private static void runChangesNothingElse() {
        ColourDesk x = busy();
        x.run();
        Seen before = Seen.of(x);
        x.run();
        before.same("12: the same run again", Seen.of(x));
        Due.is("12: inputs", x.rewind(), 2);
        Due.is("12: code", x.wipe(), 9);
    }

    /** 13: "0 if there is none": too small and too large. */
    private static void outputNoneOfTheseNumbers() {
        ColourDesk x = desk(LI, 0, 6, 0, OUT, 0, 0, 0, OUT, 0, 0, 0);
        x.run();
        Due.is("13: the first", x.output(0), 6);
        Due.is("13: the last", x.output(1), 6);
        for (int k : new int[] {-1, 2, 3, 29, 30, 31, 256, MIN, MAX}) {
            Due.is("13: output(" + k + ")", x.output(k), 0);
        }
        for (int k : new int[] {-1, 30, 31, MIN, MAX}) {
            refused("13: output(" + k + ")", y -> y.output(k), 0, ColourDesk::new, Bench::busy, Bench::full);
        }
    }

    /** 13: "0 if there is none": no run yet. */
    private static void outputBeforeAnyRun() {
        ColourDesk x = desk(LI, 0, 6, 0, OUT, 0, 0, 0);
        x.input(4);
        for (int k = -1; k <= 30; k++) {
            Due.is("13: output(" + k + ") before a run", x.output(k), 0);
        }
    }

    /** Gives 1, 2, 3 and so on, as many as asked for, and takes two and four for each of them. */
    private static ColourDesk giving(int outputs) {
        return desk(LI, 0, outputs, 0, LI, 1, 1, 0, ADD, 2, 2, 1, OUT, 0, 2, 0, SUB, 3, 2, 0, ZERO, 0, 3, 20, JUMP, 0, 2, 0);
    }

    /** 13: "(The first 30 are kept.)": with 29, 30 and 31. */
    private static void outputThirtyAreKept() {
        for (int n = 29; n <= 32; n++) {
            ColourDesk x = giving(n);
            Due.is("13: run", x.run(), ColourDesk.OK);
            Due.is("13: all are counted", x.spent(0), n);
            for (int k = 0; k <= 32; k++) {
                Due.is("13: output(" + k + ") of " + n, x.output(k), k < n && k < 30 ? k + 1 : 0);
            }
        }
    }

    /** 13: "of the latest run": nothing of a longer one before it. */
    private static void outputOfTheLatestRun() {
        ColourDesk x = giving(31);
        x.run();
        Due.is("13: the 30th", x.output(29), 30);
        x.wipe();
        x.put(LI, 5, 44, 0);
        x.put(OUT, 0, 5, 0);
        outputs("13: a shorter run", x, 44);
        for (int k = 1; k <= 31; k++) {
            Due.is("13: nothing is left", x.output(k), 0);
        }
        x.wipe();
        outputs("13: a run without outputs", x);
    }

    /** 13: "of the latest run": no other call changes them. */
    private static void outputStays() {
        ColourDesk x = desk(IN, 0, 0, 0, OUT, 0, 0, 0);
        x.input(12);
        x.run();
        x.put(OUT, 0, 1, 0);
        Due.is("13: after put", x.output(0), 12);
        x.registers(1);
        Due.is("13: after registers", x.output(0), 12);
        x.rewind();
        Due.is("13: after rewind", x.output(0), 12);
        x.input(13);
        Due.is("13: after input", x.output(0), 12);
        x.wipe();
        Due.is("13: after wipe", x.output(0), 12);
        x.run();
        Due.is("13: after a run", x.output(0), 0);
    }

    /** 14: "0 for others". */
    private static void spentOthers() {
        for (int what : new int[] {-1, 4, 5, -2, 256, MIN, MAX}) {
            refused("14: spent(" + what + ")", x -> x.spent(what), 0, ColourDesk::new, Bench::busy, Bench::full);
        }
    }

    /** 14: "or if there was none". */
    private static void spentBeforeAnyRun() {
        ColourDesk x = desk(IN, 0, 0, 0, OUT, 0, 0, 0);
        x.input(1);
        x.best(0);
        spent("14: no run", x, 0, 0, 0, 0, 0);
        x.run();
        spent("14: a run", x, 1, 2, 2, 1, 0);
    }

    /** 14: "0: how many outputs": also those that are not kept. */
    private static void spentOutputsBeyondTheKept() {
        ColourDesk x = desk(OUT, 0, 0, 0, JUMP, 0, 0, 0);
        x.run();
        Due.is("14: a hundred", x.spent(0), 100);
        ColourDesk y = desk(STOP, 0, 0, 0);
        y.run();
        Due.is("14: none", y.spent(0), 0);
    }

    /** 14: "1: how many instructions": those that were done, saved MOVEs too. */
    private static void spentInstructions() {
        ColourDesk x = desk(MOVE, 0, 0, 0, JUMP, 0, 3, 0, OUT, 0, 0, 0, STOP, 0, 0, 0, OUT, 0, 0, 0);
        x.run();
        Due.is("14: three", x.spent(1), 3);
        ColourDesk y = new ColourDesk();
        y.run();
        Due.is("14: none", y.spent(1), 0);
        ColourDesk z = desk(JUMP, 0, 0, 0);
        z.run();
        Due.is("14: two hundred", z.spent(1), 200);
    }

    private static int took(int registers, ColourDesk x) {
        x.registers(registers);
        x.run();
        return x.spent(2);
    }

    /** 14: "1 for each instruction that was done". */
    private static void spentTookOneForEach() {
        ColourDesk x = desk(LI, 0, 1, 0, ADD, 0, 0, 0, SUB, 0, 0, 0, MUL, 0, 0, 0, LESS, 0, 0, 0, JUMP, 0, 6, 0,
            ZERO, 0, 0, 7, OUT, 0, 0, 0, IN, 0, 0, 0, STOP, 0, 0, 0, OUT, 0, 0, 0);
        Due.is("14: ten", took(1, x), 10);
        Due.is("14: nothing", took(1, new ColourDesk()), 0);
        Due.is("14: two hundred", took(1, desk(JUMP, 0, 0, 0)), 200);
    }

    /** 14: "but 0 for a MOVE that is saved". */
    private static void spentTookNothingForSaved() {
        Due.is("14: saved", took(1, desk(MOVE, 0, 1, 0)), 0);
        Due.is("14: to itself", took(1, desk(MOVE, 0, 0, 0)), 0);
        Due.is("14: a hundred saved", took(1, desk(MOVE, 0, 1, 0, JUMP, 0, 0, 0)), 100);
        ColourDesk x = desk(IN, 0, 0, 0, MOVE, 1, 0, 0, IN, 0, 0, 0, OUT, 0, 0, 0, OUT, 0, 1, 0);
        Due.is("14: not saved", took(2, x), 5);
    }

    /** As op says with 0, which is in memory beside 7 if there is one register. */
    private static int tookWithMemory(int registers, int op, int d, int a, int b) {
        ColourDesk x = desk(OUT, 0, 0, 0, op, d, a, b);
        for (int i = 0; i < 10; i++) {
            x.put(OUT, 0, 7, 0);
        }
        return took(registers, x) - took(4, x);
    }

    /** 14: "and 2 more for each time that it named a temporary in memory (not for a saved MOVE)". */
    private static void spentTookTwoMoreForMemory() {
        // The OUT of 0 alone makes 2 more; what is above it is the op's.
        Due.is("14: nothing in memory", tookWithMemory(2, OUT, 0, 0, 0), 0);
        Due.is("14: OUT", tookWithMemory(1, OUT, 0, 0, 0), 2 + 2);
        Due.is("14: ZERO", tookWithMemory(1, ZERO, 0, 0, 2), 2 + 2);
        Due.is("14: LI", tookWithMemory(1, LI, 0, 0, 0), 2 + 2);
        Due.is("14: IN", tookWithMemory(1, IN, 0, 0, 0), 2 + 2);
        for (int op = ADD; op <= LESS; op++) {
            Due.is("14: d, op " + op, tookWithMemory(1, op, 0, 7, 7), 2 + 2);
            Due.is("14: d and a, op " + op, tookWithMemory(1, op, 0, 0, 7), 2 + 4);
            Due.is("14: d and b, op " + op, tookWithMemory(1, op, 0, 7, 0), 2 + 4);
            Due.is("14: all three, op " + op, tookWithMemory(1, op, 0, 0, 0), 2 + 6);
        }
        Due.is("14: MOVE to itself in memory", tookWithMemory(1, MOVE, 0, 0, 0), 2);
        Due.is("14: JUMP names none", tookWithMemory(1, JUMP, 0, 2, 0), 2);
        Due.is("14: LI's a and b are not named", took(1, desk(OUT, 0, 0, 0, OUT, 0, 7, 0, LI, 7, 0, 0)), 3 + 1 + 1);
    }

    /** 14: "what it took": with the allocation of that run, whatever came later. */
    private static void spentTookAsItWasThen() {
        ColourDesk x = desk(OUT, 0, 0, 0, OUT, 0, 1, 0);
        Due.is("14: one register", took(1, x), 4);
        x.registers(2);
        Due.is("14: registers set later", x.spent(2), 4);
        x.put(OUT, 0, 2, 0);
        Due.is("14: code put later", x.spent(2), 4);
        x.place(0);
        Due.is("14: allocation asked for later", x.spent(2), 4);
        x.run();
        Due.is("14: a new run", x.spent(2), 5);
    }

    /** 14: "3: how many inputs were taken, those beyond the last too". */
    private static void spentInputsBeyondTheLast() {
        ColourDesk x = desk(IN, 0, 0, 0, IN, 0, 0, 0);
        x.run();
        Due.is("14: two of none", x.spent(3), 2);
        x.input(1);
        x.run();
        Due.is("14: two of one", x.spent(3), 2);
        x.input(1);
        x.input(1);
        x.run();
        Due.is("14: two of three", x.spent(3), 2);
        ColourDesk y = desk(OUT, 0, 0, 0);
        y.input(1);
        y.run();
        Due.is("14: none of one", y.spent(3), 0);
        ColourDesk z = eightInputs();
        z.run();
        Due.is("14: nine of eight", z.spent(3), 9);
        ColourDesk w = desk(IN, 0, 0, 0, JUMP, 0, 0, 0);
        w.run();
        Due.is("14: a hundred of none", w.spent(3), 100);
    }

    /** 14: "Of the latest run": each run begins to count at 0, and no other call changes it. */
    private static void spentOfTheLatestRun() {
        ColourDesk x = busy();
        for (int i = 0; i < 3; i++) {
            x.wipe();
            x.registers(2 + i);
            x.rewind();
            x.input(1);
            x.put(STOP, 0, 0, 0);
            if (i == 0) {
                spent("14: not run yet", x, 3, 16, 34, 1);
            }
            x.run();
            spent("14: STOP alone", x, 0, 1, 1, 0);
        }
        x.wipe();
        spent("14: wiped", x, 0, 1, 1, 0);
        x.run();
        spent("14: no code", x, 0, 0, 0, 0);
    }

    private static ColourDesk rewound() {
        ColourDesk x = full();
        x.rewind();
        return x;
    }

    /** 15: "how many there were": 0. */
    private static void rewindOfNothing() {
        refused("15: rewind of nothing", x -> x.rewind(), 0, ColourDesk::new, BoundaryRunTest::rewound);
    }

    /** 15: "Empties the inputs: how many there were": 1 .. 8, and then none is there. */
    private static void rewindOfAll() {
        ColourDesk x = desk(IN, 0, 0, 0, OUT, 0, 0, 0);
        for (int n = 1; n <= 8; n++) {
            for (int i = 1; i <= n; i++) {
                Due.is("15: how many there are", x.input(90 + i), i);
            }
            outputs("15: with " + n, x, 91);
            Due.is("15: how many there were", x.rewind(), n);
            outputs("15: none is left", x, 0);
        }
        Due.is("15: none is left", x.rewind(), 0);
        ColourDesk y = full();
        Due.is("15: refused ones are not counted", y.input(1), -1);
        Due.is("15: eight", y.rewind(), 8);
    }

    /** 15: "Empties the inputs", and no more: code, registers and the latest run are as they were. */
    private static void rewindLeavesTheRest() {
        ColourDesk x = full();
        Seen before = Seen.of(x);
        Due.is("15: eight", x.rewind(), 8);
        before.same("15: nothing else", Seen.of(x));
    }
}
