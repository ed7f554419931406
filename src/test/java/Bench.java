import java.util.function.Supplier;
import java.util.function.ToIntFunction;

/** What the tests by hand share: the names of the instructions, desks to begin with, and a look at a whole desk. */
abstract class Bench {
    static final int LI = 0, ADD = 1, SUB = 2, MUL = 3, LESS = 4, MOVE = 5;
    static final int JUMP = 6, ZERO = 7, OUT = 8, IN = 9, STOP = 10;
    static final int MIN = Integer.MIN_VALUE, MAX = Integer.MAX_VALUE;

    /** A desk with this code: four numbers for each instruction. */
    static ColourDesk desk(int... code) {
        ColourDesk x = new ColourDesk();
        for (int i = 0; i + 3 < code.length; i += 4) {
            Due.is("put no " + i / 4, x.put(code[i], code[i + 1], code[i + 2], code[i + 3]), i / 4);
        }
        return x;
    }

    static ColourDesk with(int registers, ColourDesk x) {
        Due.is("registers(" + registers + ")", x.registers(registers), true);
        return x;
    }

    static void places(String what, ColourDesk x, int... want) {
        for (int t = 0; t < want.length; t++) {
            Due.is(what + ": place(" + t + ")", x.place(t), want[t]);
        }
    }

    static void outputs(String what, ColourDesk x, int... want) {
        Due.is(what + ": run", x.run(), ColourDesk.OK);
        Due.is(what + ": spent(0)", x.spent(0), want.length);
        for (int k = 0; k < want.length; k++) {
            Due.is(what + ": output(" + k + ")", x.output(k), want[k]);
        }
        Due.is(what + ": output behind the last", x.output(want.length), 0);
    }

    static void spent(String what, ColourDesk x, int... want) {
        for (int k = 0; k < want.length; k++) {
            Due.is(what + ": spent(" + k + ")", x.spent(k), want[k]);
        }
    }

    /** One register and two temporaries in memory, two inputs, a run behind it, and an instruction that came after the run. */
    static ColourDesk busy() {
        ColourDesk x = desk(IN, 0, 0, 0, LI, 1, 1, 0, MOVE, 2, 0, 0, SUB, 0, 0, 1, ZERO, 0, 0, 7, OUT, 0, 2, 0,
            JUMP, 0, 2, 0, OUT, 0, 0, 0);
        x.registers(1);
        x.input(3);
        x.input(-4);
        x.run();
        x.put(MOVE, 3, 1, 0);
        return x;
    }

    /** Twenty instructions, eight inputs, four registers, and a run behind it that was too long. */
    static ColourDesk full() {
        ColourDesk x = new ColourDesk();
        for (int t = 0; t < 8; t++) {
            x.put(IN, t, 0, 0);
            x.input(100 + t);
        }
        for (int t = 0; t < 8; t++) {
            x.put(OUT, 0, t, 0);
        }
        x.put(MOVE, 0, 1, 0);
        x.put(ADD, 1, 2, 3);
        x.put(ZERO, 0, 7, 20);
        x.put(JUMP, 0, 8, 0);
        x.registers(4);
        x.run();
        return x;
    }

    /** The call answers so and changes nothing that any later call shows, on a desk in each of these states. */
    @SafeVarargs
    static void refused(String what, ToIntFunction<ColourDesk> call, int answer, Supplier<ColourDesk>... states) {
        for (int state = 0; state < states.length; state++) {
            String where = what + ", state " + state;
            ColourDesk untouched = states[state].get();
            ColourDesk asked = states[state].get();
            ColourDesk looked = states[state].get();
            Seen before = Seen.of(looked);
            Due.is(where, call.applyAsInt(asked), answer);
            Due.is(where, call.applyAsInt(looked), answer);
            before.same(where + ", at once", Seen.of(looked));
            Seen whole = Seen.ofTheRest(untouched);
            whole.same(where + ", later", Seen.ofTheRest(asked));
            whole.same(where + ", after a look", Seen.ofTheRest(looked));
        }
    }
}
