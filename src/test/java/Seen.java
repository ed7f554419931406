import java.util.LinkedHashMap;
import java.util.Map;

/** All that a desk shows, by call. A desk can be looked at three times within its 512 calls. */
final class Seen {
    private final Map<String, Integer> answers = new LinkedHashMap<>();

    private Seen() {
    }

    /** What the desk shows without a change. */
    static Seen of(ColourDesk x) {
        Seen seen = new Seen();
        seen.lookAtCode(x);
        seen.lookAtRun("", x);
        return seen;
    }

    /** What it shows now, in a run, and of how much there is in it: it is empty then. */
    static Seen ofTheRest(ColourDesk x) {
        Seen seen = of(x);
        seen.answers.put("run()", x.run());
        seen.lookAtRun(" of the new run", x);
        seen.answers.put("put of one more", x.put(Bench.OUT, 0, 0, 0));
        seen.answers.put("input of one more", x.input(9));
        seen.answers.put("wipe()", x.wipe());
        seen.answers.put("rewind()", x.rewind());
        return seen;
    }

    private void lookAtCode(ColourDesk x) {
        for (int i = 0; i <= 20; i++) {
            answers.put("alive(" + i + ", false)", x.alive(i, false));
            answers.put("alive(" + i + ", true)", x.alive(i, true));
        }
        for (int t = 0; t < 8; t++) {
            answers.put("clashes(" + t + ")", x.clashes(t));
            answers.put("cost(" + t + ")", x.cost(t));
            answers.put("place(" + t + ")", x.place(t));
        }
        answers.put("least()", x.least());
        for (int what = 0; what < 5; what++) {
            answers.put("best(" + what + ")", x.best(what));
        }
    }

    private void lookAtRun(String which, ColourDesk x) {
        for (int what = 0; what < 4; what++) {
            answers.put("spent(" + what + ")" + which, x.spent(what));
        }
        for (int k = 0; k <= 30; k++) {
            answers.put("output(" + k + ")" + which, x.output(k));
        }
    }

    /** The other one was seen in the same way, and shows the same. */
    void same(String what, Seen other) {
        Due.is(what + ": how much was seen", other.answers.size(), answers.size());
        for (Map.Entry<String, Integer> answer : answers.entrySet()) {
            Due.is(what + ": " + answer.getKey(), other.answers.get(answer.getKey()), answer.getValue());
        }
    }
}
