import java.util.ArrayList;
import java.util.Arrays;
import java.util.List;

/** The document's definitions, word by word and without a thought for speed: ways are walked, allocations are tried. */
final class Model {
    private static final int MOVE = 5, JUMP = 6, ZERO = 7, OUT = 8, IN = 9, STOP = 10;
    private static final String[] LOOKED_AT = {"d", "dab", "dab", "dab", "dab", "da", "J", "aZ", "a", "d", ""};

    private final List<int[]> code = new ArrayList<>();
    private final List<Integer> inputs = new ArrayList<>();
    private List<Integer> outputs = new ArrayList<>();
    private int[] spent = new int[4];
    private int k = 2;
    /** Each temporary's register, or -2; null where it has to be found anew. */
    private int[] allocation;

    int put(int op, int d, int a, int b) {
        if (op < 0 || op > 10 || code.size() == 20) {
            return -1;
        }
        for (char c : LOOKED_AT[op].toCharArray()) {
            int v = c == 'd' ? d : c == 'a' || c == 'J' ? a : b;
            int last = c == 'J' || c == 'Z' ? 20 : 7;
            if (v < 0 || v > last) {
                return -1;
            }
        }
        code.add(new int[] {op, d, a, b});
        allocation = null;
        return code.size() - 1;
    }

    int wipe() {
        int n = code.size();
        code.clear();
        allocation = null;
        return n;
    }

    boolean registers(int count) {
        if (count < 1 || count > 4) {
            return false;
        }
        k = count;
        allocation = null;
        return true;
    }

    int input(int v) {
        if (inputs.size() == 8) {
            return -1;
        }
        inputs.add(v);
        return inputs.size();
    }

    int rewind() {
        int n = inputs.size();
        inputs.clear();
        return n;
    }

    /** The temporaries that instruction i names, once for each time: what it defines if so asked, what it uses if so asked. */
    private List<Integer> names(int i, boolean defined, boolean used) {
        List<Integer> found = new ArrayList<>();
        int[] c = code.get(i);
        for (char operand : LOOKED_AT[c[0]].toCharArray()) {
            if (operand == 'd' && defined) {
                found.add(c[1]);
            } else if (operand == 'a' && used) {
                found.add(c[2]);
            } else if (operand == 'b' && used) {
                found.add(c[3]);
            }
        }
        return found;
    }

    private List<Integer> leads(int i) {
        int[] c = code.get(i);
        List<Integer> to = new ArrayList<>();
        if (c[0] == JUMP) {
            to.add(c[2]);
        } else if (c[0] == ZERO) {
            to.add(i + 1);
            to.add(c[3]);
        } else if (c[0] != STOP) {
            to.add(i + 1);
        }
        to.removeIf(j -> j >= code.size());
        return to;
    }

    private boolean comesToUse(int i, int t, boolean[] seen) {
        if (seen[i]) {
            return false;
        }
        seen[i] = true;
        if (names(i, false, true).contains(t)) {
            return true;
        }
        if (names(i, true, false).contains(t)) {
            return false;
        }
        for (int j : leads(i)) {
            if (comesToUse(j, t, seen)) {
                return true;
            }
        }
        return false;
    }

    private boolean aliveBefore(int i, int t) {
        return comesToUse(i, t, new boolean[20]);
    }

    private boolean aliveBehind(int i, int t) {
        return leads(i).stream().anyMatch(j -> aliveBefore(j, t));
    }

    int alive(int i, boolean behind) {
        if (i < 0 || i >= code.size()) {
            return -1;
        }
        int sum = 0;
        for (int t = 0; t < 8; t++) {
            sum += (behind ? aliveBehind(i, t) : aliveBefore(i, t)) ? 1 << t : 0;
        }
        return sum;
    }

    private boolean destroys(int i, int t, int u) {
        int[] c = code.get(i);
        return names(i, true, false).contains(t) && aliveBehind(i, u) && !(c[0] == MOVE && c[2] == u);
    }

    private boolean clash(int t, int u) {
        if (t == u) {
            return false;
        }
        for (int i = 0; i < code.size(); i++) {
            if (destroys(i, t, u) || destroys(i, u, t)) {
                return true;
            }
        }
        return !code.isEmpty() && aliveBefore(0, t) && aliveBefore(0, u);
    }

    int clashes(int t) {
        if (t < 0 || t > 7) {
            return -1;
        }
        int sum = 0;
        for (int u = 0; u < 8; u++) {
            sum += clash(t, u) ? 1 << u : 0;
        }
        return sum;
    }

    private boolean wayLeads(int from, int to, boolean[] seen) {
        for (int j : leads(from)) {
            if (j == to) {
                return true;
            }
            if (!seen[j]) {
                seen[j] = true;
                if (wayLeads(j, to, seen)) {
                    return true;
                }
            }
        }
        return false;
    }

    int cost(int t) {
        if (t < 0 || t > 7) {
            return -1;
        }
        int sum = 0;
        for (int i = 0; i < code.size(); i++) {
            int weight = wayLeads(i, i, new boolean[20]) ? 10 : 1;
            for (int named : names(i, true, true)) {
                sum += named == t ? weight : 0;
            }
        }
        return sum;
    }

    int least() {
        boolean[][] clash = clashTable();
        for (int count = 1; count < 8; count++) {
            if (colours(0, count, new int[8], clash)) {
                return count;
            }
        }
        return 8;
    }

    private boolean[][] clashTable() {
        boolean[][] table = new boolean[8][8];
        for (int t = 0; t < 8; t++) {
            for (int u = 0; u < 8; u++) {
                table[t][u] = clash(t, u);
            }
        }
        return table;
    }

    private static boolean colours(int t, int count, int[] given, boolean[][] clash) {
        if (t == 8) {
            return true;
        }
        for (int r = 0; r < count; r++) {
            given[t] = r;
            if (fits(t, given, clash) && colours(t + 1, count, given, clash)) {
                return true;
            }
        }
        return false;
    }

    private static boolean fits(int t, int[] given, boolean[][] clash) {
        for (int u = 0; u < t; u++) {
            if (clash[t][u] && given[u] == given[t] && given[t] != -2) {
                return false;
            }
        }
        return true;
    }

    private int[] allocation() {
        if (allocation == null) {
            int[] costs = new int[8];
            for (int t = 0; t < 8; t++) {
                costs[t] = cost(t);
            }
            tryAll(0, new int[8], clashTable(), costs, new int[1][]);
        }
        return allocation;
    }

    /** Tries every allocation; found holds the rank of the best one so far. */
    private void tryAll(int t, int[] given, boolean[][] clash, int[] costs, int[][] found) {
        if (t == 8) {
            int[] rank = rank(given, costs);
            if (found[0] == null || Arrays.compare(rank, found[0]) < 0) {
                found[0] = rank;
                allocation = given.clone();
            }
            return;
        }
        for (int r = -2; r < k; r++) {
            given[t] = r;
            if (r != -1 && fits(t, given, clash)) {
                tryAll(t + 1, given, clash, costs, found);
            }
        }
    }

    private int[] rank(int[] given, int[] costs) {
        int[] rank = new int[11];
        for (int t = 0; t < 8; t++) {
            rank[0] += given[t] == -2 ? costs[t] : 0;
            rank[1] += given[t] == -2 ? 1 << t : 0;
            rank[3 + t] = given[t];
        }
        for (int i = 0; i < code.size(); i++) {
            rank[2] -= saved(i, given) ? 1 : 0;
        }
        return rank;
    }

    private boolean saved(int i, int[] given) {
        int[] c = code.get(i);
        return c[0] == MOVE && (c[1] == c[2] || given[c[1]] >= 0 && given[c[1]] == given[c[2]]);
    }

    int place(int t) {
        return t < 0 || t > 7 ? -1 : allocation()[t];
    }

    int best(int what) {
        int[] given = allocation();
        int sum = 0;
        for (int t = 0; t < 8 && what < 2; t++) {
            sum += given[t] != -2 ? 0 : what == 0 ? cost(t) : 1 << t;
        }
        for (int i = 0; i < code.size() && what > 1; i++) {
            sum += code.get(i)[0] == MOVE && (what == 3 || saved(i, given)) ? 1 : 0;
        }
        if (what == 4) {
            return (int) Arrays.stream(given).filter(r -> r >= 0).distinct().count();
        }
        return what < 0 || what > 4 ? -1 : sum;
    }

    /** Runs over the temporaries themselves: the document says that where they are makes no difference. */
    int run() {
        int[] given = allocation();
        int[] value = new int[8];
        outputs = new ArrayList<>();
        spent = new int[4];
        int at = 0;
        while (at < code.size() && spent[1] < 200) {
            int[] c = code.get(at);
            spent[1]++;
            if (!saved(at, given)) {
                spent[2] += 1 + 2 * (int) names(at, true, true).stream().filter(t -> given[t] == -2).count();
            }
            int next = at + 1;
            switch (c[0]) {
                case 0 -> value[c[1]] = c[2];
                case 1 -> value[c[1]] = value[c[2]] + value[c[3]];
                case 2 -> value[c[1]] = value[c[2]] - value[c[3]];
                case 3 -> value[c[1]] = value[c[2]] * value[c[3]];
                case 4 -> value[c[1]] = value[c[2]] < value[c[3]] ? 1 : 0;
                case MOVE -> value[c[1]] = value[c[2]];
                case JUMP -> next = c[2];
                case ZERO -> next = value[c[2]] == 0 ? c[3] : next;
                case OUT -> outputs.add(value[c[2]]);
                case IN -> {
                    value[c[1]] = spent[3] < inputs.size() ? inputs.get(spent[3]) : 0;
                    spent[3]++;
                }
                default -> next = 20;
            }
            at = next;
        }
        spent[0] = outputs.size();
        return at < code.size() ? 1 : 0;
    }

    int output(int i) {
        return i < 0 || i >= 30 || i >= outputs.size() ? 0 : outputs.get(i);
    }

    int spent(int what) {
        return what < 0 || what > 3 ? 0 : spent[what];
    }
}
