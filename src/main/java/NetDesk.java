/** A desk for logic networks of seven variables and for the registers that they drive. */
public final class NetDesk {
    private static final int VARIABLES = 7;
    private static final int FIRST_REGISTER = 3;
    private static final int REGISTERS = 4;
    private static final int INPUT_VALUES = 8;
    private static final int STATES = 16;
    private static final int ALL_STATES = 65535;
    private static final int ASSIGNMENTS = 128;
    private static final int CUBES = 2187;
    private static final int NEVER = 7;
    private static final int ALWAYS = 8;
    private static final int FIRST_NETS = 9;
    private static final int MOST_NETS = 32;
    private static final int NET_TRUTHS = 4096;
    private static final int NEXT_TRUTHS = 512;

    /** The function of net a stands at a * ASSIGNMENTS + assignment. */
    private final boolean[] truth = new boolean[NET_TRUTHS];
    private final boolean[] made = new boolean[ASSIGNMENTS];
    private int nets;

    /** Copies, not net numbers: a NEXT function outlives the net it came from. */
    private final boolean[] nextTruth = new boolean[NEXT_TRUTHS];
    private int resetState;
    private int machineState;

    private final boolean[] implicant = new boolean[CUBES];
    private final int[] primes = new int[CUBES];
    private int primeCount;
    private final int[] covering = new int[ASSIGNMENTS];

    /** Sets of states are numbers here, with the bit 2^state for each state in them. */
    private final int[] heirs = new int[STATES];
    private final int[] layer = new int[STATES];
    private final int[] distance = new int[STATES];

    /** Never more than 15 STEPS are needed, and the inputs behind them. */
    private final int[] route = new int[STATES];
    private int routeLength;

    private final int[] look = new int[STATES];
    private final int[] finerLook = new int[STATES];

    public NetDesk() {
        for (int a = 0; a < FIRST_NETS; a++) {
            for (int x = 0; x < ASSIGNMENTS; x++) {
                truth[a * ASSIGNMENTS + x] = a < NEVER ? bit(x, a) : a == ALWAYS;
            }
        }
        nets = FIRST_NETS;
        for (int k = 0; k < REGISTERS; k++) {
            copyToNext(k, FIRST_REGISTER + k);
        }
    }

    public int gate(int kind, int a, int b, int c) {
        if (!fitsGate(kind, a, b, c)) {
            return -1;
        }
        for (int x = 0; x < ASSIGNMENTS; x++) {
            made[x] = kind < 6 ? joined(kind, a, b, c, x) : moved(kind, a, b, c, x);
        }
        int found = netAsMade();
        if (found >= 0) {
            return found;
        }
        return addMade();
    }

    public int undo(int n) {
        if (n < FIRST_NETS || n > nets) {
            return -1;
        }
        int gone = nets - n;
        nets = n;
        return gone;
    }

    public boolean next(int register, int a) {
        if (register < FIRST_REGISTER || register >= VARIABLES) {
            return false;
        }
        if (a != -1 && !isNet(a)) {
            return false;
        }
        int source = a == -1 ? register : a;
        copyToNext(register - FIRST_REGISTER, source);
        return true;
    }

    public boolean reset(int state) {
        if (!isState(state)) {
            return false;
        }
        resetState = state;
        return true;
    }

    public int ask(int a, int what) {
        if (!isNet(a)) {
            return -1;
        }
        switch (what) {
            case 0:
                return trueCount(a);
            case 1:
                return leastTrue(a);
            case 2:
                return support(a);
            case 3:
                return decisionCount(a);
            case 4:
                findPrimes(a);
                return primeCount;
            case 5:
                findPrimes(a);
                return essentialCount();
            default:
                return -1;
        }
    }

    public int shape(int a, int v) {
        if (!isNet(a) || !isVariable(v)) {
            return -1;
        }
        int kinds = 0;
        for (int x = 0; x < ASSIGNMENTS; x++) {
            if (!bit(x, v)) {
                boolean before = isTrue(a, x);
                boolean after = isTrue(a, x + (1 << v));
                if (!before && after) {
                    kinds |= 1;
                }
                if (before && !after) {
                    kinds |= 2;
                }
            }
        }
        return kinds;
    }

    public boolean same(int a, int v, int w) {
        if (!isNet(a) || !isVariable(v) || !isVariable(w)) {
            return false;
        }
        for (int x = 0; x < ASSIGNMENTS; x++) {
            int swapped = bit(x, v) == bit(x, w) ? x : x ^ (1 << v) ^ (1 << w);
            if (isTrue(a, x) != isTrue(a, swapped)) {
                return false;
            }
        }
        return true;
    }

    public boolean holds(int a, int assignment) {
        if (!isNet(a) || assignment < 0 || assignment >= ASSIGNMENTS) {
            return false;
        }
        return isTrue(a, assignment);
    }

    public int prime(int a, int k) {
        if (!isNet(a)) {
            return -1;
        }
        findPrimes(a);
        if (k < 0 || k >= primeCount) {
            return -1;
        }
        return primes[k];
    }

    public int step(int inputs) {
        if (inputs < -1 || inputs >= INPUT_VALUES) {
            return -1;
        }
        machineState = inputs == -1 ? resetState : successor(machineState, inputs);
        return machineState;
    }

    public int reach(int a) {
        if (!isNet(a)) {
            return -1;
        }
        findHeirs();
        findLayers(a);
        for (int n = 0; n < STATES; n++) {
            if (bit(layer[n], resetState)) {
                keepRoute(a, n);
                return n;
            }
        }
        return -1;
    }

    public int witness(int k) {
        if (k < 0 || k >= routeLength) {
            return -1;
        }
        return route[k];
    }

    public int states(int what) {
        findDistances();
        int count = 0;
        int farthest = 0;
        int sum = 0;
        for (int s = 0; s < STATES; s++) {
            if (distance[s] >= 0) {
                count++;
                farthest = distance[s] > farthest ? distance[s] : farthest;
                sum |= 1 << s;
            }
        }
        switch (what) {
            case 0:
                return count;
            case 1:
                return farthest;
            case 2:
                return sum;
            default:
                return -1;
        }
    }

    public int check(int kind, int a, int b) {
        if (kind < 0 || kind > 7 || !isNet(a)) {
            return -1;
        }
        if (kind >= 6 && !isNet(b)) {
            return -1;
        }
        findHeirs();
        boolean all = kind % 2 == 1;
        int inA = setOf(a);
        if (kind < 2) {
            return leadingInto(inA, all);
        }
        if (kind < 4) {
            return comingTo(inA, ALL_STATES, all);
        }
        if (kind < 6) {
            return stayingIn(inA, all);
        }
        int inB = setOf(b);
        return comingTo(inB, inA, all);
    }

    public int alike(int a, int state) {
        if (!isNet(a)) {
            return -1;
        }
        if (state != -1 && !isState(state)) {
            return -1;
        }
        findLooks(a);
        if (state != -1) {
            return look[state];
        }
        int count = 0;
        for (int s = 0; s < STATES; s++) {
            if (look[s] == s) {
                count++;
            }
        }
        return count;
    }

    private static boolean bit(int number, int k) {
        return (number >> k & 1) == 1;
    }

    private boolean isNet(int a) {
        return a >= 0 && a < nets;
    }

    private static boolean isVariable(int v) {
        return v >= 0 && v < VARIABLES;
    }

    private static boolean isState(int state) {
        return state >= 0 && state < STATES;
    }

    private boolean isTrue(int a, int assignment) {
        return truth[a * ASSIGNMENTS + assignment];
    }

    private boolean isTrueIn(int a, int state, int inputs) {
        return truth[a * ASSIGNMENTS + state * INPUT_VALUES + inputs];
    }

    private void copyToNext(int k, int a) {
        for (int x = 0; x < ASSIGNMENTS; x++) {
            nextTruth[k * ASSIGNMENTS + x] = isTrue(a, x);
        }
    }

    private boolean fitsGate(int kind, int a, int b, int c) {
        switch (kind) {
            case 0:
                return isNet(a);
            case 1:
            case 2:
            case 3:
                return isNet(a) && isNet(b);
            case 4:
            case 5:
                return isNet(a) && isNet(b) && isNet(c);
            case 6:
            case 7:
                return isNet(a) && isVariable(b);
            case 8:
                return isNet(a) && isVariable(b) && isNet(c);
            case 9:
                return isNet(a) && isVariable(b) && (c == 0 || c == 1);
            default:
                return false;
        }
    }

    /** Kinds 0 to 5 look at the assignment x alone. */
    private boolean joined(int kind, int a, int b, int c, int x) {
        boolean first = isTrue(a, x);
        if (kind == 0) {
            return !first;
        }
        boolean second = isTrue(b, x);
        if (kind == 1) {
            return first && second;
        }
        if (kind == 2) {
            return first || second;
        }
        if (kind == 3) {
            return first != second;
        }
        boolean third = isTrue(c, x);
        if (kind == 4) {
            return first ? second : third;
        }
        return first && second || first && third || second && third;
    }

    /** Kinds 6 to 9 look at x with another value of the variable v. */
    private boolean moved(int kind, int a, int v, int c, int x) {
        int on = x | 1 << v;
        int off = on ^ 1 << v;
        if (kind == 6) {
            return isTrue(a, on) || isTrue(a, off);
        }
        if (kind == 7) {
            return isTrue(a, on) && isTrue(a, off);
        }
        boolean value = kind == 8 ? isTrue(c, x) : c == 1;
        return value ? isTrue(a, on) : isTrue(a, off);
    }

    private int netAsMade() {
        for (int a = 0; a < nets; a++) {
            boolean equal = true;
            for (int x = 0; x < ASSIGNMENTS; x++) {
                if (isTrue(a, x) != made[x]) {
                    equal = false;
                }
            }
            if (equal) {
                return a;
            }
        }
        return -1;
    }

    private int addMade() {
        if (nets >= MOST_NETS) {
            return -1;
        }
        for (int x = 0; x < ASSIGNMENTS; x++) {
            truth[nets * ASSIGNMENTS + x] = made[x];
        }
        nets++;
        return nets - 1;
    }

    private int trueCount(int a) {
        int count = 0;
        for (int x = 0; x < ASSIGNMENTS; x++) {
            if (isTrue(a, x)) {
                count++;
            }
        }
        return count;
    }

    private int leastTrue(int a) {
        for (int x = 0; x < ASSIGNMENTS; x++) {
            if (isTrue(a, x)) {
                return x;
            }
        }
        return -1;
    }

    private int support(int a) {
        int sum = 0;
        for (int v = 0; v < VARIABLES; v++) {
            for (int x = 0; x < ASSIGNMENTS; x++) {
                if (isTrue(a, x) != isTrue(a, x ^ 1 << v)) {
                    sum |= 1 << v;
                }
            }
        }
        return sum;
    }

    /**
     * Counts each k by itself: a function that depends on variable k can't come back at a
     * greater k, where variable k has a value already.
     */
    private int decisionCount(int a) {
        int count = 0;
        for (int k = 0; k < VARIABLES; k++) {
            for (int values = 0; values < 1 << k; values++) {
                if (dependsAfter(a, k, values) && isFirstSuch(a, k, values)) {
                    count++;
                }
            }
        }
        return count;
    }

    /** Whether what becomes of net a, if variables 0 to k - 1 get these values, depends on k. */
    private boolean dependsAfter(int a, int k, int values) {
        for (int rest = 0; rest < ASSIGNMENTS >> k; rest++) {
            int x = (rest << k) + values;
            if (isTrue(a, x) != isTrue(a, x ^ 1 << k)) {
                return true;
            }
        }
        return false;
    }

    private boolean isFirstSuch(int a, int k, int values) {
        for (int lesser = 0; lesser < values; lesser++) {
            boolean equal = true;
            for (int rest = 0; rest < ASSIGNMENTS >> k; rest++) {
                int high = rest << k;
                if (isTrue(a, high + lesser) != isTrue(a, high + values)) {
                    equal = false;
                }
            }
            if (equal) {
                return false;
            }
        }
        return true;
    }

    private void findPrimes(int a) {
        for (int code = 0; code < CUBES; code++) {
            implicant[code] = isImplicant(a, code);
        }
        primeCount = 0;
        for (int code = 0; code < CUBES; code++) {
            if (isPrime(code)) {
                primes[primeCount] = code;
                primeCount++;
            }
        }
    }

    /** Needs the answers for all lesser codes: the two halves of a cube have lesser ones. */
    private boolean isImplicant(int a, int code) {
        int rest = code;
        int weight = 1;
        int assignment = 0;
        for (int v = 0; v < VARIABLES; v++) {
            int digit = rest % 3;
            if (digit == 2) {
                return implicant[code - weight] && implicant[code - 2 * weight];
            }
            assignment += digit << v;
            rest /= 3;
            weight *= 3;
        }
        return isTrue(a, assignment);
    }

    /** Freeing one variable is enough to try: all cubes inside an implicant are implicants. */
    private boolean isPrime(int code) {
        if (!implicant[code]) {
            return false;
        }
        int rest = code;
        int weight = 1;
        for (int v = 0; v < VARIABLES; v++) {
            int digit = rest % 3;
            if (digit != 2 && implicant[code + (2 - digit) * weight]) {
                return false;
            }
            rest /= 3;
            weight *= 3;
        }
        return true;
    }

    private static boolean covers(int code, int assignment) {
        int rest = code;
        for (int v = 0; v < VARIABLES; v++) {
            int digit = rest % 3;
            if (digit != 2 && bit(assignment, v) != (digit == 1)) {
                return false;
            }
            rest /= 3;
        }
        return true;
    }

    private int essentialCount() {
        for (int x = 0; x < ASSIGNMENTS; x++) {
            covering[x] = 0;
            for (int k = 0; k < primeCount; k++) {
                if (covers(primes[k], x)) {
                    covering[x]++;
                }
            }
        }
        int count = 0;
        for (int k = 0; k < primeCount; k++) {
            if (coversAlone(primes[k])) {
                count++;
            }
        }
        return count;
    }

    private boolean coversAlone(int code) {
        for (int x = 0; x < ASSIGNMENTS; x++) {
            if (covering[x] == 1 && covers(code, x)) {
                return true;
            }
        }
        return false;
    }

    private int successor(int state, int inputs) {
        int x = state * INPUT_VALUES + inputs;
        int result = 0;
        for (int k = 0; k < REGISTERS; k++) {
            if (nextTruth[k * ASSIGNMENTS + x]) {
                result |= 1 << k;
            }
        }
        return result;
    }

    /** The heirs of a state are the states to which one STEP can lead from it. */
    private void findHeirs() {
        for (int s = 0; s < STATES; s++) {
            heirs[s] = 0;
            for (int inputs = 0; inputs < INPUT_VALUES; inputs++) {
                heirs[s] |= 1 << successor(s, inputs);
            }
        }
    }

    private int setOf(int a) {
        int set = 0;
        for (int s = 0; s < STATES; s++) {
            for (int inputs = 0; inputs < INPUT_VALUES; inputs++) {
                if (isTrueIn(a, s, inputs)) {
                    set |= 1 << s;
                }
            }
        }
        return set;
    }

    private int leadingInto(int set, boolean all) {
        int found = 0;
        for (int s = 0; s < STATES; s++) {
            int inside = heirs[s] & set;
            if (all ? inside == heirs[s] : inside != 0) {
                found |= 1 << s;
            }
        }
        return found;
    }

    /** Each round but the last adds a state, so that as many rounds as states are enough. */
    private int comingTo(int goal, int through, boolean all) {
        int found = goal;
        for (int round = 0; round < STATES; round++) {
            found = goal | through & leadingInto(found, all);
        }
        return found;
    }

    private int stayingIn(int set, boolean all) {
        int kept = set;
        for (int round = 0; round < STATES; round++) {
            kept = set & leadingInto(kept, all);
        }
        return kept;
    }

    /** Layer n has the states from which just n STEPS can lead into the SET of net a. */
    private void findLayers(int a) {
        layer[0] = setOf(a);
        for (int n = 1; n < STATES; n++) {
            layer[n] = leadingInto(layer[n - 1], false);
        }
    }

    /** The layers say which inputs still lead on, so that the least of them can be taken. */
    private void keepRoute(int a, int n) {
        int state = resetState;
        for (int k = 0; k < n; k++) {
            route[k] = leastInputsInto(state, layer[n - 1 - k]);
            state = successor(state, route[k]);
        }
        route[n] = leastInputsFor(a, state);
        routeLength = n + 1;
    }

    private int leastInputsInto(int state, int set) {
        for (int inputs = 0; inputs < INPUT_VALUES; inputs++) {
            int after = successor(state, inputs);
            if (bit(set, after)) {
                return inputs;
            }
        }
        return 0;
    }

    private int leastInputsFor(int a, int state) {
        for (int inputs = 0; inputs < INPUT_VALUES; inputs++) {
            if (isTrueIn(a, state, inputs)) {
                return inputs;
            }
        }
        return 0;
    }

    /** A state that can't be reached keeps the distance -1. */
    private void findDistances() {
        findHeirs();
        for (int s = 0; s < STATES; s++) {
            distance[s] = -1;
        }
        distance[resetState] = 0;
        for (int n = 1; n < STATES; n++) {
            for (int s = 0; s < STATES; s++) {
                if (distance[s] == n - 1) {
                    reachHeirs(s, n);
                }
            }
        }
    }

    private void reachHeirs(int state, int n) {
        for (int s = 0; s < STATES; s++) {
            if (bit(heirs[state], s) && distance[s] < 0) {
                distance[s] = n;
            }
        }
    }

    /**
     * The look of a state is the least state from which the steps so far can't tell it. Each
     * round but the last splits some states off, so that as many rounds as states are enough.
     */
    private void findLooks(int a) {
        for (int s = 0; s < STATES; s++) {
            look[s] = leastWithSameNet(a, s);
        }
        for (int round = 0; round < STATES; round++) {
            for (int s = 0; s < STATES; s++) {
                finerLook[s] = leastWithSameHeirs(s);
            }
            for (int s = 0; s < STATES; s++) {
                look[s] = finerLook[s];
            }
        }
    }

    private int leastWithSameNet(int a, int state) {
        for (int s = 0; s < state; s++) {
            boolean equal = true;
            for (int inputs = 0; inputs < INPUT_VALUES; inputs++) {
                if (isTrueIn(a, s, inputs) != isTrueIn(a, state, inputs)) {
                    equal = false;
                }
            }
            if (equal) {
                return s;
            }
        }
        return state;
    }

    private int leastWithSameHeirs(int state) {
        for (int s = 0; s < state; s++) {
            boolean equal = look[s] == look[state];
            for (int inputs = 0; inputs < INPUT_VALUES; inputs++) {
                int one = successor(s, inputs);
                int other = successor(state, inputs);
                if (look[one] != look[other]) {
                    equal = false;
                }
            }
            if (equal) {
                return s;
            }
        }
        return state;
    }
}
