/** The boundary cases of promises 8, 9, 10 and 16 and of the BEST allocation; the quotes are the document's words. */
public final class BoundaryAllocationTest extends Bench {
    public static void main(String[] args) {
        leastIsOneAtLeast();
        leastIsEightAtMost();
        leastOfEachNumber();
        leastLooksAtNoRegisters();
        leastIsNotTheMostThatClash();
        registersOneToFour();
        noRegisterBeyond();
        twoThatClashAreApart();
        nothingInMemoryWhereItFits();
        costsOfThoseInMemoryLeast();
        costsBeforeTheSum();
        leastSumOfPowers();
        sumBeforeMoves();
        mostMovesSaved();
        movesHaveNoWeight();
        movesBeforeLeastRegisters();
        leastRegistersInOrder();
        savedSameRegister();
        savedSameOneInMemory();
        savedNotTwoInMemory();
        savedNotMemoryAndRegister();
        placeNoSuchTemporary();
        placeMemory();
        placeOfTheNotNamed();
        placeFollowsChanges();
        bestOfOthers();
        bestOfNothing();
        bestOfAll();
        bestMovesAreCountedEverywhere();
        usedAlsoNotNamed();
        usedCountsEachOnce();
        usedIsNotHowManyAreSet();
        Due.end();
    }

    /** The first n temporaries all clash; each is named once. */
    private static ColourDesk clashing(int n) {
        ColourDesk x = new ColourDesk();
        for (int t = 0; t < n; t++) {
            x.put(OUT, 0, t, 0);
        }
        return x;
    }

    /** 8: "The least k": each temporary has a register, so it is 1 where nothing clashes. */
    private static void leastIsOneAtLeast() {
        Due.is("8: no code", new ColourDesk().least(), 1);
        Due.is("8: nothing named", desk(STOP, 0, 0, 0, JUMP, 0, 0, 0).least(), 1);
        Due.is("8: nothing clashes", desk(IN, 0, 0, 0, OUT, 0, 0, 0, IN, 1, 0, 0, OUT, 0, 1, 0).least(), 1);
        ColourDesk x = clashing(8);
        x.wipe();
        Due.is("8: after wipe", x.least(), 1);
    }

    /** 8: "8 at most". */
    private static void leastIsEightAtMost() {
        Due.is("8: eight that clash", clashing(8).least(), 8);
        Due.is("8: eight that clash, full", full().least(), 8);
        Due.is("8: seven that clash", clashing(7).least(), 7);
    }

    /** 8: "with which an allocation has nothing in memory": where it is 4 or less, the registers show it. */
    private static void leastOfEachNumber() {
        for (int n = 1; n <= 8; n++) {
            ColourDesk x = clashing(n);
            Due.is("8: least of " + n, x.least(), n);
            for (int k = 1; k <= 4; k++) {
                x.registers(k);
                Due.is("8: nothing in memory, " + n + " with " + k, x.best(1) == 0, n <= k);
            }
        }
    }

    /** 8: "the registers that are set are not looked at". */
    private static void leastLooksAtNoRegisters() {
        for (int n : new int[] {1, 3, 8}) {
            ColourDesk x = clashing(n);
            for (int k = 1; k <= 4; k++) {
                x.registers(k);
                Due.is("8: " + n + " with registers " + k, x.least(), n);
            }
        }
    }

    /** 8: "The least k": a ring of five needs three, though no three of it clash; one of four or six needs two. */
    private static void leastIsNotTheMostThatClash() {
        int[] want = {0, 0, 0, 3, 2, 3, 2};
        for (int n = 3; n <= 6; n++) {
            ColourDesk x = new ColourDesk();
            for (int i = 0; i < n; i++) {
                x.put(IN, i, 0, 0);
                x.put(OUT, 0, (i + 1) % n, 0);
                x.put(STOP, 0, 0, 0);
            }
            Due.is("8: a ring of " + n, x.least(), want[n]);
        }
        // 6 to 1 to 0 to 7: the two ends must not share.
        ColourDesk path = desk(IN, 6, 0, 0, OUT, 0, 1, 0, STOP, 0, 0, 0, IN, 1, 0, 0, OUT, 0, 0, 0, STOP, 0, 0, 0,
            IN, 0, 0, 0, OUT, 0, 7, 0);
        Due.is("8: a path", path.least(), 2);
        places("8: a path", path, 0, 1, 0, 0, 0, 0, 0, 1);
    }

    /** "REGISTERS are 0..k - 1". */
    private static void registersOneToFour() {
        for (int k = 1; k <= 4; k++) {
            ColourDesk x = with(k, clashing(8));
            for (int t = 0; t < 8; t++) {
                Due.is("0..k - 1, " + k + ": " + t, x.place(t), t < 8 - k ? ColourDesk.MEMORY : t - 8 + k);
            }
        }
    }

    /** "0..k - 1": one more would save a MOVE, but there is none. */
    private static void noRegisterBeyond() {
        // 0 clashes with 1 and 2, and 1 with 3, so with two registers 2 and 3 can't share.
        ColourDesk x = desk(IN, 0, 0, 0, OUT, 0, 1, 0, STOP, 0, 0, 0, IN, 0, 0, 0, OUT, 0, 2, 0, STOP, 0, 0, 0,
            IN, 3, 0, 0, OUT, 0, 1, 0, STOP, 0, 0, 0, MOVE, 2, 3, 0);
        places("two registers", x, 0, 1, 1, 0);
        Due.is("two registers: not saved", x.best(2), 0);
        x.registers(3);
        places("three registers", x, 0, 1, 2, 2);
        Due.is("three registers: saved", x.best(2), 1);
        Due.is("three registers: used", x.best(4), 3);
    }

    /** "such that two that clash do not have the same one". */
    private static void twoThatClashAreApart() {
        // The MOVE would be saved if 0 and 1 shared, but the second IN keeps them apart.
        ColourDesk x = desk(IN, 0, 0, 0, MOVE, 1, 0, 0, IN, 0, 0, 0, OUT, 0, 0, 0, OUT, 0, 1, 0);
        places("apart", x, 0, 1);
        Due.is("apart: not saved", x.best(2), 0);
        outputs("apart: run", x, 0, 0);
    }

    /** "puts some temporaries into MEMORY": none where none is needed, though the not named ones would cost nothing. */
    private static void nothingInMemoryWhereItFits() {
        for (int k = 1; k <= 4; k++) {
            ColourDesk x = with(k, clashing(k));
            Due.is("fits: what is in memory", x.best(1), 0);
            Due.is("fits: what it costs", x.best(0), 0);
            Due.is("fits: one more does not", with(k, clashing(k + 1)).best(1), 1);
        }
    }

    /** "that for which the costs of those in memory are least together": three cheap ones go before one dear one. */
    private static void costsOfThoseInMemoryLeast() {
        // 0, 1 and 2 clash with 3 alone, and 3 costs 4.
        ColourDesk x = desk(IN, 0, 0, 0, IN, 1, 0, 0, IN, 2, 0, 0, OUT, 0, 3, 0, OUT, 0, 3, 0, OUT, 0, 3, 0, OUT, 0, 3, 0);
        x.registers(1);
        Due.is("least together: three of cost 1", x.best(1), 7);
        Due.is("least together: 3", x.best(0), 3);
        // The same, but 0 and 1 cost two each.
        ColourDesk y = desk(IN, 0, 0, 0, IN, 0, 0, 0, IN, 1, 0, 0, IN, 1, 0, 0, IN, 2, 0, 0, OUT, 0, 3, 0, OUT, 0, 3, 0,
            OUT, 0, 3, 0, OUT, 0, 3, 0);
        y.registers(1);
        Due.is("least together: one of cost 4", y.best(1), 8);
        Due.is("least together: 4", y.best(0), 4);
    }

    /** "least together; of these": a greater sum of 2^t does not matter where the costs are less. */
    private static void costsBeforeTheSum() {
        ColourDesk x = with(1, desk(OUT, 0, 0, 0, OUT, 0, 0, 0, OUT, 0, 7, 0));
        Due.is("costs first: 7 goes", x.best(1), 128);
        Due.is("costs first: 1", x.best(0), 1);
        x.put(OUT, 0, 7, 0);
        Due.is("costs first: as dear, 0 goes", x.best(1), 1);
        x.put(OUT, 0, 7, 0);
        Due.is("costs first: dearer, 0 goes", x.best(1), 1);
        Due.is("costs first: 2", x.best(0), 2);
    }

    /** "of these that with the least sum of 2^t": not the fewest. */
    private static void leastSumOfPowers() {
        // 0 and 1 clash with 2 alone and cost as much together as it does.
        ColourDesk x = with(1, desk(IN, 0, 0, 0, IN, 1, 0, 0, OUT, 0, 2, 0, OUT, 0, 2, 0));
        Due.is("least sum: 1 + 2 before 4", x.best(1), 3);
        Due.is("least sum: cost", x.best(0), 2);
        // The same with 0 and 3 against 2, and against 4.
        Due.is("least sum: 4 before 1 + 8",
            with(1, desk(IN, 0, 0, 0, IN, 3, 0, 0, OUT, 0, 2, 0, OUT, 0, 2, 0)).best(1), 4);
        Due.is("least sum: 1 + 8 before 16",
            with(1, desk(IN, 0, 0, 0, IN, 3, 0, 0, OUT, 0, 4, 0, OUT, 0, 4, 0)).best(1), 9);
    }

    /** "least sum .. of these that in which the most MOVEs are SAVED": the sum is looked at first. */
    private static void sumBeforeMoves() {
        // 0 and 2 cost two each and clash; with 2 in memory the MOVE would be saved.
        ColourDesk x = with(1, desk(IN, 0, 0, 0, IN, 2, 0, 0, OUT, 0, 2, 0, MOVE, 1, 0, 0, OUT, 0, 1, 0));
        Due.is("sum first", x.best(1), 1);
        Due.is("sum first: nothing saved", x.best(2), 0);
    }

    /** "of these that in which the most MOVEs are SAVED". */
    private static void mostMovesSaved() {
        // 1 and 2 clash; 0 is moved from 2 and to 2, and from 1 once.
        ColourDesk x = desk(IN, 1, 0, 0, IN, 2, 0, 0, OUT, 0, 1, 0, MOVE, 0, 2, 0, MOVE, 2, 0, 0, OUT, 0, 2, 0,
            IN, 1, 0, 0, MOVE, 0, 1, 0, OUT, 0, 0, 0);
        places("most saved", x, 0, 1, 0);
        Due.is("most saved: two", x.best(2), 2);
        Due.is("most saved: of three", x.best(3), 3);
    }

    /** "the most MOVEs": one in a loop counts as one. */
    private static void movesHaveNoWeight() {
        ColourDesk x = desk(IN, 1, 0, 0, IN, 2, 0, 0, OUT, 0, 1, 0, MOVE, 0, 2, 0, OUT, 0, 0, 0, MOVE, 2, 0, 0,
            OUT, 0, 2, 0, IN, 1, 0, 0, MOVE, 0, 1, 0, OUT, 0, 0, 0, ZERO, 0, 0, 7);
        places("no weight", x, 0, 1, 0);
        Due.is("no weight: two", x.best(2), 2);
    }

    /** "most MOVEs .. of these that in which temporary 0's register is least": MOVEs are looked at first. */
    private static void movesBeforeLeastRegisters() {
        // 2 clashes with nothing and would have 0, but is moved to 1.
        ColourDesk x = desk(IN, 0, 0, 0, IN, 1, 0, 0, OUT, 0, 0, 0, OUT, 0, 1, 0, IN, 2, 0, 0, MOVE, 1, 2, 0, OUT, 0, 1, 0);
        places("MOVEs first", x, 0, 1, 1, 0);
        Due.is("MOVEs first: saved", x.best(2), 1);
    }

    /** "temporary 0's register is least, then 1's .. (those in memory left out)". */
    private static void leastRegistersInOrder() {
        // 1 clashes with 0 and 2, 3 clashes with 2: 0, 1, 0, 1.
        ColourDesk x = with(4, desk(IN, 0, 0, 0, IN, 1, 0, 0, OUT, 0, 0, 0, IN, 2, 0, 0, OUT, 0, 1, 0, IN, 3, 0, 0,
            OUT, 0, 2, 0, OUT, 0, 3, 0));
        places("in order", x, 0, 1, 0, 1, 0, 0, 0, 0);
        // 7 clashes with 0 and 1 both, which do not clash: the first ones have 0, and 7 has 1.
        places("in order: the last one gives way", desk(IN, 0, 0, 0, IN, 1, 0, 0, OUT, 0, 7, 0), 0, 0, 0, 0, 0, 0, 0, 1);
        // Of 0, 1 and 2, which all clash, 0 is in memory: 1 is the first to be looked at.
        ColourDesk y = desk(OUT, 0, 0, 0, OUT, 0, 1, 0, OUT, 0, 2, 0);
        places("in order: 0 is left out", y, -2, 0, 1, 0);
        ColourDesk z = desk(OUT, 0, 0, 0, OUT, 0, 0, 0, OUT, 0, 1, 0, OUT, 0, 2, 0, OUT, 0, 2, 0);
        places("in order: 1 is left out", z, 0, -2, 1, 0);
    }

    /** "SAVED (d and a have the same register": a MOVE to itself too. */
    private static void savedSameRegister() {
        Due.is("saved: two that share", desk(MOVE, 0, 1, 0).best(2), 1);
        Due.is("saved: to itself", desk(MOVE, 5, 5, 0).best(2), 1);
        Due.is("saved: each of them", desk(MOVE, 0, 1, 0, MOVE, 1, 0, 0, MOVE, 2, 2, 0).best(2), 3);
    }

    /** 0 lies in memory: it clashes with 7, which is dearer. */
    private static ColourDesk inMemory(int op, int d, int a) {
        ColourDesk x = desk(op, d, a, 0);
        for (int i = 0; i < 6; i++) {
            x.put(OUT, 0, 7, 0);
        }
        x.put(OUT, 0, 0, 0);
        return with(1, x);
    }

    /** "or are the same one in memory)". */
    private static void savedSameOneInMemory() {
        ColourDesk x = inMemory(MOVE, 0, 0);
        Due.is("same one: in memory", x.place(0), ColourDesk.MEMORY);
        Due.is("same one: saved", x.best(2), 1);
        x.run();
        // The MOVE takes nothing, the OUT of 0 takes 3, the six others 1 each.
        spent("same one", x, 7, 8, 9);
    }

    /** "the same one in memory": two different ones are not saved. */
    private static void savedNotTwoInMemory() {
        ColourDesk x = inMemory(MOVE, 0, 1);
        Due.is("two in memory", x.best(1), 3);
        Due.is("two in memory: not saved", x.best(2), 0);
        x.run();
        spent("two in memory", x, 7, 8, 14);
    }

    /** "have the same register": one in memory has none, also where the other one has register 0. */
    private static void savedNotMemoryAndRegister() {
        ColourDesk x = with(1, desk(OUT, 0, 7, 0, MOVE, 7, 0, 0, OUT, 0, 7, 0, OUT, 0, 0, 0));
        Due.is("memory and register: 0", x.place(0), ColourDesk.MEMORY);
        Due.is("memory and register: 7", x.place(7), 0);
        Due.is("memory and register: from", x.best(2), 0);
        ColourDesk y = inMemory(MOVE, 0, 7);
        y.put(OUT, 0, 0, 0);
        y.put(IN, 0, 0, 0);
        y.put(OUT, 0, 7, 0);
        Due.is("memory and register: 0", y.place(0), ColourDesk.MEMORY);
        Due.is("memory and register: 7", y.place(7), 0);
        Due.is("memory and register: to", y.best(2), 0);
    }

    /** 9: "NONE if there is no such temporary". */
    private static void placeNoSuchTemporary() {
        for (int t : new int[] {-1, -2, 8, 9, 16, 31, 32, 256, MIN, MAX}) {
            Due.is("9: place(" + t + ") without code", new ColourDesk().place(t), -1);
            refused("9: place(" + t + ")", x -> x.place(t), -1, Bench::busy, Bench::full);
        }
    }

    /** 9: "the register of t, MEMORY": the first and the last temporary can be either. */
    private static void placeMemory() {
        ColourDesk x = with(1, desk(OUT, 0, 0, 0, OUT, 0, 7, 0));
        places("9: 0 in memory", x, -2, 0, 0, 0, 0, 0, 0, 0);
        x.put(OUT, 0, 0, 0);
        places("9: 7 in memory", x, 0, 0, 0, 0, 0, 0, 0, -2);
    }

    /** 9: "gives each of the others a register": also the ones that the code does not name. */
    private static void placeOfTheNotNamed() {
        ColourDesk x = with(1, clashing(7));
        Due.is("9: named, not in memory", x.place(6), 0);
        Due.is("9: not named", x.place(7), 0);
        for (int k = 1; k <= 4; k++) {
            places("9: no code, with " + k, with(k, new ColourDesk()), 0, 0, 0, 0, 0, 0, 0, 0);
        }
    }

    /** 9: "In the best allocation": of the code and the registers as they are now. */
    private static void placeFollowsChanges() {
        ColourDesk x = clashing(3);
        places("9: two registers", x, -2, 0, 1);
        x.registers(1);
        places("9: one register", x, -2, -2, 0);
        x.registers(3);
        places("9: three registers", x, 0, 1, 2);
        x.put(OUT, 0, 3, 0);
        places("9: one more", x, -2, 0, 1, 2);
        x.wipe();
        places("9: wiped", x, 0, 0, 0, 0, 0, 0, 0, 0);
    }

    /** 10: "else NONE". */
    private static void bestOfOthers() {
        for (int what : new int[] {-1, 5, -2, 6, 256, MIN, MAX}) {
            refused("10: best(" + what + ")", x -> x.best(what), -1, ColourDesk::new, Bench::busy, Bench::full);
        }
    }

    private static void best(String what, ColourDesk x, int... want) {
        for (int i = 0; i < want.length; i++) {
            Due.is(what + ": best(" + i + ")", x.best(i), want[i]);
        }
    }

    /** 10: what 0 .. 4 where there is nothing. */
    private static void bestOfNothing() {
        best("10: no code", new ColourDesk(), 0, 0, 0, 0, 1);
        best("10: nothing named", desk(STOP, 0, 0, 0), 0, 0, 0, 0, 1);
        ColourDesk x = full();
        x.wipe();
        best("10: after wipe", x, 0, 0, 0, 0, 1);
    }

    /** 10: what 0 .. 4 where there is the most: seven in memory, twenty MOVEs that are all saved, four registers. */
    private static void bestOfAll() {
        ColourDesk x = with(1, clashing(8));
        best("10: seven in memory", x, 7, 127, 0, 0, 1);
        x.put(OUT, 0, 0, 0);
        best("10: the seven others in memory", x, 7, 254, 0, 0, 1);
        places("10: the seven others in memory", x, 0, -2, -2, -2, -2, -2, -2, -2);
        ColourDesk y = new ColourDesk();
        for (int i = 0; i < 20; i++) {
            y.put(MOVE, 1, 0, 0);
        }
        best("10: twenty MOVEs saved", y, 0, 0, 20, 20, 1);
        best("10: four in memory", full(), 54, 113, 0, 1, 4);
    }

    /** 10: "3: how many MOVEs there are": also where no run comes, and also the saved ones. */
    private static void bestMovesAreCountedEverywhere() {
        ColourDesk x = desk(MOVE, 1, 1, 0, STOP, 0, 0, 0, MOVE, 2, 3, 0, LI, 0, 5, 5);
        Due.is("10: two MOVEs", x.best(3), 2);
        Due.is("10: two saved", x.best(2), 2);
    }

    /** 16: "what 4 counts the registers that some temporary has, also one that the code does not name". */
    private static void usedAlsoNotNamed() {
        for (int k = 1; k <= 4; k++) {
            Due.is("16: no code, with " + k, with(k, new ColourDesk()).best(4), 1);
            Due.is("16: nothing named, with " + k, with(k, desk(JUMP, 0, 3, 0, STOP, 0, 0, 0)).best(4), 1);
        }
    }

    /** 16: "the registers that some temporary has": one that many have is one, and memory is none. */
    private static void usedCountsEachOnce() {
        Due.is("16: eight in one", with(1, desk(OUT, 0, 3, 0)).best(4), 1);
        Due.is("16: seven in memory", with(1, clashing(8)).best(4), 1);
        Due.is("16: six in memory", with(2, clashing(8)).best(4), 2);
        Due.is("16: two, one of them with many", desk(OUT, 0, 3, 0, OUT, 0, 7, 0).best(4), 2);
    }

    /** 16: "that some temporary has": not all that are set. */
    private static void usedIsNotHowManyAreSet() {
        for (int n = 1; n <= 4; n++) {
            for (int k = 1; k <= 4; k++) {
                Due.is("16: " + n + " clash, " + k + " set", with(k, clashing(n)).best(4), n < k ? n : k);
            }
        }
    }
}
