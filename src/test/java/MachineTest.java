/** Promises 4, 5 and 11 to 14: next, reset, step, reach, witness, states. */
public final class MachineTest {
    public static void main(String[] args) {
        nextIsTakenAsTheNetIsNow();
        resetSetsTheResetState();
        stepsGoAllAtOnce();
        stepsWithInputs();
        reachCountsSteps();
        reachOfNone();
        reachDoesNotMoveTheMachine();
        witnessIsTheFirstRow();
        witnessLooksAhead();
        witnessOfTheLatestReach();
        statesOfACounter();
        statesOfAShiftRow();
        statesFromElsewhere();
        Check.end();
    }

    /** Register 3 takes input 0, and each other register the one before it. */
    private static void makeShiftRow(NetDesk x) {
        x.next(3, 0);
        x.next(4, 3);
        x.next(5, 4);
        x.next(6, 5);
    }

    private static void nextIsTakenAsTheNetIsNow() {
        NetDesk x = new NetDesk();
        int net = x.gate(2, 0, 3, 0);
        for (int register = 3; register < 7; register++) {
            Check.due("next", x.next(register, net), true);
        }
        Check.due("undo", x.undo(9), 1);
        Check.due("another net of that number", x.gate(0, 8, 0, 0), 7);
        Check.due("another net of that number", x.gate(0, 0, 0, 0), 9);
        Check.due("step", x.step(6), 0);
        Check.due("step", x.step(1), 15);
        Check.due("step", x.step(0), 15);
    }

    private static void resetSetsTheResetState() {
        NetDesk x = new NetDesk();
        for (int state = 0; state < 16; state++) {
            Check.due("reset", x.reset(state), true);
            Check.due("RESET state", x.step(-1), state);
            Check.due("states", x.states(2), 1 << state);
        }
    }

    private static void stepsGoAllAtOnce() {
        NetDesk x = new NetDesk();
        x.next(3, 6);
        x.next(4, 3);
        x.next(5, 4);
        x.next(6, 5);
        x.reset(3);
        int[] want = {3, 6, 12, 9, 3, 6};
        for (int k = 0; k < want.length; k++) {
            Check.due("turn " + k, x.step(k == 0 ? -1 : 0), want[k]);
        }
    }

    private static void stepsWithInputs() {
        NetDesk x = new NetDesk();
        x.next(3, 0);
        x.next(4, 1);
        x.next(5, 2);
        x.next(6, 3);
        int before = 0;
        for (int inputs = 0; inputs < 8; inputs++) {
            int want = inputs + (before % 2) * 8;
            Check.due("step " + inputs, x.step(inputs), want);
            before = want;
        }
    }

    private static void reachCountsSteps() {
        NetDesk x = new NetDesk();
        Desks.makeCounter(x);
        for (int k = 0; k < 4; k++) {
            Check.due("reach of " + (3 + k), x.reach(3 + k), 1 << k);
        }
        int last = x.gate(1, x.gate(1, 3, 4, 0), x.gate(1, 5, 6, 0), 0);
        Check.due("the last state", x.reach(last), 15);
        int lastAndInput = x.gate(1, last, 2, 0);
        Check.due("the last state and an input", x.reach(lastAndInput), 15);
        Check.due("witness", x.witness(15), 4);
        Check.due("witness", x.witness(14), 0);
        Check.due("witness", x.witness(16), -1);
        x.reset(15);
        Check.due("at once", x.reach(last), 0);
        x.reset(12);
        Check.due("in three", x.reach(last), 3);
    }

    private static void reachOfNone() {
        NetDesk x = new NetDesk();
        for (int register = 3; register < 7; register++) {
            Check.due("reach at rest", x.reach(register), -1);
        }
        Check.due("reach of never", x.reach(7), -1);
        Check.due("reach of always", x.reach(8), 0);
        for (int wrong : Check.allBut(0, 8)) {
            Check.due("reach of net " + wrong, x.reach(wrong), -1);
        }
    }

    private static void reachDoesNotMoveTheMachine() {
        NetDesk x = new NetDesk();
        Desks.makeCounter(x);
        x.step(0);
        Check.due("reach", x.reach(6), 8);
        x.states(0);
        Check.due("step", x.step(0), 2);
    }

    private static void dueRow(String row, NetDesk x, int... want) {
        Check.due(row + " before", x.witness(-1), -1);
        for (int k = 0; k < want.length; k++) {
            Check.due(row + " " + k, x.witness(k), want[k]);
        }
        Check.due(row + " after", x.witness(want.length), -1);
    }

    private static void witnessIsTheFirstRow() {
        NetDesk x = new NetDesk();
        makeShiftRow(x);
        Check.due("reach", x.reach(6), 4);
        dueRow("into 6", x, 1, 0, 0, 0, 0);
        int both = x.gate(1, 4, 6, 0);
        Check.due("reach", x.reach(both), 4);
        dueRow("into 4 and 6", x, 1, 0, 1, 0, 0);
        int withInputs = x.gate(1, both, x.gate(1, 1, 2, 0), 0);
        Check.due("reach", x.reach(withInputs), 4);
        dueRow("with inputs", x, 1, 0, 1, 0, 6);
        Check.due("reach", x.reach(8), 0);
        dueRow("at once", x, 0);
    }

    /**
     * From 0, inputs with 0 false lead to 1 and the others to 2. From 1 the net is reached with
     * input 2 alone, from 2 with any: the row that comes first is not the one of least sum.
     */
    private static void witnessLooksAhead() {
        NetDesk x = new NetDesk();
        int rest = x.gate(0, x.gate(2, 3, 4, 0), 0, 0);
        int notInput = x.gate(0, 0, 0, 0);
        x.next(3, x.gate(1, rest, notInput, 0));
        x.next(4, x.gate(1, rest, 0, 0));
        int fromOne = x.gate(1, 3, 2, 0);
        int goal = x.gate(2, fromOne, 4, 0);
        x.next(5, goal);
        Check.due("reach", x.reach(5), 2);
        dueRow("first by the first inputs", x, 0, 4, 0);
        x.next(5, 4);
        Check.due("reach", x.reach(5), 2);
        dueRow("not into a dead end", x, 1, 0, 0);
    }

    private static void witnessOfTheLatestReach() {
        NetDesk x = new NetDesk();
        makeShiftRow(x);
        Check.due("none", x.witness(0), -1);
        Check.due("reach of never", x.reach(7), -1);
        Check.due("still none", x.witness(0), -1);
        Check.due("reach", x.reach(4), 2);
        Check.due("reach of never", x.reach(7), -1);
        dueRow("the one that was not -1", x, 1, 0, 0);
        Check.due("reach of no net", x.reach(9), -1);
        dueRow("the one that was not -1", x, 1, 0, 0);
        Check.due("reach", x.reach(2), 0);
        dueRow("the latest", x, 4);
    }

    private static void dueStates(String which, NetDesk x, int count, int farthest, int sum) {
        Check.due(which + ": how many", x.states(0), count);
        Check.due(which + ": how far", x.states(1), farthest);
        Check.due(which + ": which", x.states(2), sum);
    }

    private static void statesOfACounter() {
        NetDesk x = new NetDesk();
        Desks.makeCounter(x);
        dueStates("counter", x, 16, 15, 65535);
        x.reset(9);
        dueStates("counter from 9", x, 16, 15, 65535);
        x.next(6, 7);
        dueStates("counter of three bits from 9", x, 9, 8, 255 + (1 << 9));
        x.next(5, 7);
        dueStates("counter of two bits from 9", x, 5, 4, 15 + (1 << 9));
    }

    private static void statesOfAShiftRow() {
        NetDesk x = new NetDesk();
        dueStates("at rest", x, 1, 0, 1);
        makeShiftRow(x);
        dueStates("shift row", x, 16, 4, 65535);
        x.next(3, 8);
        dueStates("filling up", x, 5, 4, 1 + 2 + 8 + 128 + 32768);
    }

    private static void statesFromElsewhere() {
        NetDesk x = new NetDesk();
        Desks.makeCounter(x);
        x.step(0);
        x.step(0);
        for (int register = 3; register < 7; register++) {
            x.next(register, -1);
        }
        x.next(4, 1);
        x.reset(12);
        dueStates("from the RESET state", x, 2, 1, (1 << 12) + (1 << 14));
        Check.due("the machine stayed", x.step(0), 0);
    }
}
