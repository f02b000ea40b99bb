import java.util.ArrayDeque;
import java.util.ArrayList;
import java.util.Arrays;
import java.util.BitSet;
import java.util.HashMap;
import java.util.HashSet;
import java.util.List;
import java.util.Map;
import java.util.Set;

/**
 * What the document says, in other ways than NetDesk's: sets of assignments, all cubes against
 * all, rows of inputs, which state can come to which, pairs of states that can be told apart.
 */
final class Model {
    private static final BitSet[] CUBES = new BitSet[2187];
    private static final Map<BitSet, List<Integer>> KNOWN_PRIMES = new HashMap<>();

    static {
        for (int code = 0; code < 2187; code++) {
            CUBES[code] = cube(code);
        }
    }

    private final List<BitSet> nets = new ArrayList<>();
    private final BitSet[] next = new BitSet[4];
    private int resetState = 0;
    private int machineState = 0;
    private int[] row = {};

    Model() {
        for (int k = 0; k < 7; k++) {
            nets.add(variable(k));
        }
        nets.add(new BitSet());
        nets.add(not(new BitSet()));
        for (int k = 0; k < 4; k++) {
            next[k] = variable(3 + k);
        }
    }

    private static BitSet variable(int k) {
        BitSet set = new BitSet();
        for (int x = 0; x < 128; x++) {
            set.set(x, x / (1 << k) % 2 == 1);
        }
        return set;
    }

    private static BitSet not(BitSet set) {
        BitSet other = (BitSet) set.clone();
        other.flip(0, 128);
        return other;
    }

    private static BitSet and(BitSet one, BitSet two) {
        BitSet both = (BitSet) one.clone();
        both.and(two);
        return both;
    }

    private static BitSet or(BitSet one, BitSet two) {
        return not(and(not(one), not(two)));
    }

    private static BitSet choice(BitSet of, BitSet yes, BitSet no) {
        return or(and(of, yes), and(not(of), no));
    }

    private static BitSet with(BitSet f, int v, boolean value) {
        BitSet result = new BitSet();
        for (int x = 0; x < 128; x++) {
            BitSet at = BitSet.valueOf(new long[] {x});
            at.set(v, value);
            long[] words = at.toLongArray();
            result.set(x, f.get(words.length == 0 ? 0 : (int) words[0]));
        }
        return result;
    }

    private boolean net(int a) {
        return a >= 0 && a < nets.size();
    }

    private static boolean variableThere(int v) {
        return v >= 0 && v <= 6;
    }

    private boolean fits(int kind, int a, int b, int c) {
        boolean bFits = kind == 0 || (kind < 6 ? net(b) : variableThere(b));
        boolean cIsNet = kind == 4 || kind == 5 || kind == 8;
        boolean cFits = kind == 9 ? c == 0 || c == 1 : !cIsNet || net(c);
        return kind >= 0 && kind <= 9 && net(a) && bFits && cFits;
    }

    int gate(int kind, int a, int b, int c) {
        if (!fits(kind, a, b, c)) {
            return -1;
        }
        BitSet f = nets.get(a);
        BitSet g = kind == 0 ? f : nets.get(b);
        BitSet h = kind == 4 || kind == 5 || kind == 8 ? nets.get(c) : f;
        BitSet result = switch (kind) {
            case 0 -> not(f);
            case 1 -> and(f, g);
            case 2 -> or(f, g);
            case 3 -> or(and(f, not(g)), and(g, not(f)));
            case 4 -> choice(f, g, h);
            case 5 -> choice(f, or(g, h), and(g, h));
            case 6 -> or(with(f, b, false), with(f, b, true));
            case 7 -> and(with(f, b, false), with(f, b, true));
            case 8 -> choice(h, with(f, b, true), with(f, b, false));
            default -> with(f, b, c == 1);
        };
        int found = nets.indexOf(result);
        if (found < 0 && nets.size() < 32) {
            found = nets.size();
            nets.add(result);
        }
        return found;
    }

    int undo(int n) {
        if (n < 9 || n > nets.size()) {
            return -1;
        }
        List<BitSet> gone = nets.subList(n, nets.size());
        int count = gone.size();
        gone.clear();
        return count;
    }

    boolean next(int register, int a) {
        if (register < 3 || register > 6 || !(a == -1 || net(a))) {
            return false;
        }
        next[register - 3] = a == -1 ? variable(register) : nets.get(a);
        return true;
    }

    boolean reset(int state) {
        if (state < 0 || state > 15) {
            return false;
        }
        resetState = state;
        return true;
    }

    int ask(int a, int what) {
        if (!net(a) || what < 0 || what > 5) {
            return -1;
        }
        BitSet f = nets.get(a);
        return switch (what) {
            case 0 -> f.cardinality();
            case 1 -> f.nextSetBit(0);
            case 2 -> support(f);
            case 3 -> decisions(f);
            case 4 -> primes(f).size();
            default -> essentials(f);
        };
    }

    private static boolean depends(BitSet f, int v) {
        return !with(f, v, false).equals(with(f, v, true));
    }

    private static int support(BitSet f) {
        int sum = 0;
        for (int v = 0; v < 7; v++) {
            sum += depends(f, v) ? 1 << v : 0;
        }
        return sum;
    }

    private static int decisions(BitSet f) {
        Set<BitSet> counted = new HashSet<>();
        Set<BitSet> level = new HashSet<>(List.of(f));
        for (int k = 0; k < 7; k++) {
            Set<BitSet> deeper = new HashSet<>();
            for (BitSet g : level) {
                if (depends(g, k)) {
                    counted.add(g);
                }
                deeper.add(with(g, k, false));
                deeper.add(with(g, k, true));
            }
            level = deeper;
        }
        return counted.size();
    }

    private static BitSet cube(int code) {
        BitSet covered = new BitSet();
        for (int x = 0; x < 128; x++) {
            boolean fitting = true;
            for (int v = 0, weight = 1; v < 7; v++, weight *= 3) {
                int digit = code / weight % 3;
                fitting &= digit == 2 || digit == (x >> v & 1);
            }
            covered.set(x, fitting);
        }
        return covered;
    }

    private static boolean inside(BitSet one, BitSet other) {
        return !one.intersects(not(other));
    }

    private static List<Integer> primes(BitSet f) {
        return KNOWN_PRIMES.computeIfAbsent(f, Model::findPrimes);
    }

    private static List<Integer> findPrimes(BitSet f) {
        BitSet falses = not(f);
        List<Integer> implicants = new ArrayList<>();
        for (int code = 0; code < 2187; code++) {
            if (!CUBES[code].intersects(falses)) {
                implicants.add(code);
            }
        }
        List<Integer> found = new ArrayList<>();
        for (int code : implicants) {
            if (isInNoOther(code, implicants)) {
                found.add(code);
            }
        }
        return found;
    }

    private static boolean isInNoOther(int code, List<Integer> implicants) {
        for (int other : implicants) {
            if (other != code && inside(CUBES[code], CUBES[other])) {
                return false;
            }
        }
        return true;
    }

    private static int essentials(BitSet f) {
        int count = 0;
        for (int code : primes(f)) {
            BitSet others = new BitSet();
            for (int other : primes(f)) {
                if (other != code) {
                    others.or(CUBES[other]);
                }
            }
            count += inside(CUBES[code], others) ? 0 : 1;
        }
        return count;
    }

    int shape(int a, int v) {
        if (!net(a) || !variableThere(v)) {
            return -1;
        }
        BitSet off = with(nets.get(a), v, false);
        BitSet on = with(nets.get(a), v, true);
        if (off.equals(on)) {
            return 0;
        }
        return inside(off, on) ? 1 : inside(on, off) ? 2 : 3;
    }

    boolean same(int a, int v, int w) {
        if (!net(a) || !variableThere(v) || !variableThere(w)) {
            return false;
        }
        BitSet f = nets.get(a);
        BitSet oneWay = with(with(f, v, true), w, false);
        BitSet otherWay = with(with(f, v, false), w, true);
        return v == w || oneWay.equals(otherWay);
    }

    boolean holds(int a, int assignment) {
        return net(a) && assignment >= 0 && assignment <= 127 && nets.get(a).get(assignment);
    }

    int prime(int a, int k) {
        if (!net(a)) {
            return -1;
        }
        List<Integer> found = primes(nets.get(a));
        return k >= 0 && k < found.size() ? found.get(k) : -1;
    }

    private int after(int state, int inputs) {
        int result = 0;
        for (int k = 0; k < 4; k++) {
            result += next[k].get(8 * state + inputs) ? 1 << k : 0;
        }
        return result;
    }

    int step(int inputs) {
        if (inputs < -1 || inputs > 7) {
            return -1;
        }
        machineState = inputs == -1 ? resetState : after(machineState, inputs);
        return machineState;
    }

    /** For each state the first of the shortest rows of inputs into it, or null. */
    private int[][] rowsFromReset() {
        int[][] rows = new int[16][];
        rows[resetState] = new int[0];
        ArrayDeque<Integer> open = new ArrayDeque<>(List.of(resetState));
        while (!open.isEmpty()) {
            int state = open.remove();
            for (int inputs = 0; inputs < 8; inputs++) {
                int to = after(state, inputs);
                int length = rows[state].length;
                int[] longer = Arrays.copyOf(rows[state], length + 1);
                longer[length] = inputs;
                if (rows[to] == null) {
                    open.add(to);
                    rows[to] = longer;
                }
            }
        }
        return rows;
    }

    int reach(int a) {
        if (!net(a)) {
            return -1;
        }
        int[][] rows = rowsFromReset();
        int[] best = null;
        for (int state = 0; state < 16; state++) {
            int inputs = nets.get(a).nextSetBit(8 * state) - 8 * state;
            if (rows[state] != null && inputs >= 0 && inputs < 8) {
                int[] whole = Arrays.copyOf(rows[state], rows[state].length + 1);
                whole[whole.length - 1] = inputs;
                if (best == null || whole.length < best.length
                        || whole.length == best.length && Arrays.compare(whole, best) < 0) {
                    best = whole;
                }
            }
        }
        row = best == null ? row : best;
        return best == null ? -1 : best.length - 1;
    }

    int witness(int k) {
        return k >= 0 && k < row.length ? row[k] : -1;
    }

    int states(int what) {
        int count = 0;
        int farthest = 0;
        int sum = 0;
        int[][] rows = rowsFromReset();
        for (int state = 0; state < 16; state++) {
            if (rows[state] != null) {
                count++;
                farthest = Math.max(farthest, rows[state].length);
                sum += 1 << state;
            }
        }
        return what == 0 ? count : what == 1 ? farthest : what == 2 ? sum : -1;
    }

    private int setOf(int a) {
        int set = 0;
        for (int state = 0; state < 16; state++) {
            set |= nets.get(a).get(8 * state, 8 * state + 8).isEmpty() ? 0 : 1 << state;
        }
        return set;
    }

    /** Which states can be come to by one STEP or more, all but the last in the set within. */
    private boolean[][] comes(int within) {
        boolean[][] comes = new boolean[16][16];
        for (int from = 0; from < 16; from++) {
            for (int inputs = 0; inputs < 8; inputs++) {
                comes[from][after(from, inputs)] = Check.bit(within, from);
            }
        }
        for (int through = 0; through < 16; through++) {
            for (int from = 0; from < 16; from++) {
                for (int to = 0; to < 16; to++) {
                    comes[from][to] |= comes[from][through] && comes[through][to];
                }
            }
        }
        return comes;
    }

    private int someWayTo(int goal, int within) {
        boolean[][] comes = comes(within);
        int found = goal;
        for (int from = 0; from < 16; from++) {
            for (int to = 0; to < 16; to++) {
                found |= comes[from][to] && Check.bit(goal, to) ? 1 << from : 0;
            }
        }
        return found;
    }

    /** A way that never leaves the set comes, inside it, to a state that comes to itself. */
    private int someWayIn(int set) {
        boolean[][] comes = comes(set);
        int turning = 0;
        for (int state = 0; state < 16; state++) {
            turning |= comes[state][state] ? 1 << state : 0;
        }
        return someWayTo(turning, set);
    }

    private int someStepInto(int set) {
        int found = 0;
        for (int state = 0; state < 16; state++) {
            for (int inputs = 0; inputs < 8; inputs++) {
                found |= Check.bit(set, after(state, inputs)) ? 1 << state : 0;
            }
        }
        return found;
    }

    int check(int kind, int a, int b) {
        if (kind < 0 || kind > 7 || !net(a) || kind > 5 && !net(b)) {
            return -1;
        }
        int all = 65535;
        int inA = setOf(a);
        int inB = kind > 5 ? setOf(b) : 0;
        int notA = all & ~inA;
        int notB = all & ~inB;
        return switch (kind) {
            case 0 -> someStepInto(inA);
            case 1 -> all & ~someStepInto(notA);
            case 2 -> someWayTo(inA, all);
            case 3 -> all & ~someWayIn(notA);
            case 4 -> someWayIn(inA);
            case 5 -> all & ~someWayTo(notA, all);
            case 6 -> someWayTo(inB, inA);
            default -> all & ~(someWayIn(notB) | someWayTo(notA & notB, notB));
        };
    }

    int alike(int a, int state) {
        if (!net(a) || state < -1 || state > 15) {
            return -1;
        }
        boolean[][] told = toldApart(nets.get(a));
        int count = 0;
        int[] least = new int[16];
        for (int s = 0; s < 16; s++) {
            while (told[s][least[s]]) {
                least[s]++;
            }
            count += least[s] == s ? 1 : 0;
        }
        return state == -1 ? count : least[state];
    }

    private boolean[][] toldApart(BitSet f) {
        boolean[][] told = new boolean[16][16];
        boolean changed = true;
        while (changed) {
            changed = false;
            for (int pair = 0; pair < 256; pair++) {
                int one = pair / 16;
                int other = pair % 16;
                boolean now = false;
                for (int inputs = 0; inputs < 8; inputs++) {
                    now |= f.get(8 * one + inputs) != f.get(8 * other + inputs)
                            || told[after(one, inputs)][after(other, inputs)];
                }
                changed |= now && !told[one][other];
                told[one][other] |= now;
            }
        }
        return told;
    }
}
