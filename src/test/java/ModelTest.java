/** Runs of calls from a fixed generator: the desk must answer as the model does, call by call. */
public final class ModelTest {
    private static final int OBJECTS = 300;
    private static final int MOST_CALLS = 512;

    private long seed;
    private int calls = 0;
    private final int object;
    private final ColourDesk desk = new ColourDesk();
    private final Model model = new Model();

    private ModelTest(int object) {
        this.object = object;
        seed = 1000003L * object + 17;
    }

    public static void main(String[] args) {
        for (int object = 0; object < OBJECTS; object++) {
            new ModelTest(object).wholeLife();
        }
        Due.end();
    }

    private int below(int bound) {
        seed = seed * 6364136223846793005L + 1442695040888963407L;
        return (int) ((seed >>> 33) % bound);
    }

    private void same(String call, long got, long want) {
        calls++;
        Due.is("object " + object + ", call " + calls + ": " + call, got, want);
    }

    private void wholeLife() {
        while (calls < MOST_CALLS - 120) {
            change();
            askAll();
        }
    }

    private void change() {
        if (below(3) > 0) {
            same("wipe()", desk.wipe(), model.wipe());
        }
        int size = below(4) == 0 ? below(4) : below(22);
        int style = below(5);
        int temporaries = 2 + below(7);
        for (int i = 0; i < size; i++) {
            append(style, temporaries, size);
        }
        if (below(3) == 0) {
            same("rewind()", desk.rewind(), model.rewind());
        }
        for (int i = below(5); i > 0; i--) {
            int v = below(3) == 0 ? wild() : below(9) - 4;
            same("input(" + v + ")", desk.input(v), model.input(v));
        }
    }

    private void append(int style, int temporaries, int size) {
        int op = opOf(style);
        int d = below(temporaries);
        int a = below(temporaries);
        int b = below(temporaries);
        if (op == 0) {
            a = below(2) == 0 ? below(5) - 2 : wild();
        } else if (op == 6) {
            a = below(8) == 0 ? below(21) : below(size + 1);
        } else if (op == 7) {
            b = below(8) == 0 ? below(21) : below(size + 1);
        }
        int spoilt = below(40);
        d = spoilt == 0 ? wild() : d;
        a = spoilt == 1 ? wild() : a;
        b = spoilt == 2 ? wild() : b;
        op = spoilt == 3 ? wild() : op;
        same("put(" + op + ", " + d + ", " + a + ", " + b + ")", desk.put(op, d, a, b), model.put(op, d, a, b));
    }

    /** Some code is all moves, some runs straight on, some jumps about, some is of every kind. */
    private int opOf(int style) {
        int[] straight = {0, 1, 2, 3, 4, 5, 5, 8, 8, 9};
        int[] moving = {0, 5, 5, 5, 5, 8, 8, 9};
        int[] jumping = {1, 2, 5, 6, 7, 7, 7, 8, 9};
        switch (style) {
            case 0:
                return straight[below(straight.length)];
            case 1:
                return moving[below(moving.length)];
            case 2:
                return jumping[below(jumping.length)];
            case 3:
                return below(8) == 0 ? below(11) : straight[below(straight.length)];
            default:
                return below(11);
        }
    }

    private int wild() {
        int[] some = {-1, -2, 8, 9, 20, 21, 31, 32, 33, Integer.MIN_VALUE, Integer.MAX_VALUE, 65536, 46341};
        return below(4) == 0 ? below(Integer.MAX_VALUE) : some[below(some.length)];
    }

    private void askAll() {
        int k = below(6);
        same("registers(" + k + ")", desk.registers(k) ? 1 : 0, model.registers(k) ? 1 : 0);
        for (int i = 0; i < 8; i++) {
            int at = below(23) - 1;
            boolean behind = below(2) == 0;
            same("alive(" + at + ", " + behind + ")", desk.alive(at, behind), model.alive(at, behind));
        }
        for (int t = -1; t <= 8; t++) {
            same("clashes(" + t + ")", desk.clashes(t), model.clashes(t));
            same("cost(" + t + ")", desk.cost(t), model.cost(t));
            same("place(" + t + ")", desk.place(t), model.place(t));
        }
        same("least()", desk.least(), model.least());
        for (int what = -1; what <= 5; what++) {
            same("best(" + what + ")", desk.best(what), model.best(what));
        }
        if (below(4) > 0) {
            same("run()", desk.run(), model.run());
        }
        for (int what = -1; what <= 4; what++) {
            same("spent(" + what + ")", desk.spent(what), model.spent(what));
        }
        for (int i = 0; i < 5; i++) {
            int at = below(4) == 0 ? below(40) - 2 : below(6);
            same("output(" + at + ")", desk.output(at), model.output(at));
        }
    }
}
