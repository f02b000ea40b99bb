/** The edges that promises 4, 5 and 11 to 14 name: next, reset, step, reach, witness, states. */
public final class MachineEdgesTest {
    public static void main(String[] args) {
        nextOfTheFirstAndTheLastRegister();
        nextOfTheFirstAndTheLastNet();
        nextOfItsOwn();
        nextOfNoRegister();
        nextOfNoNet();
        nextOfNeither();
        resetToTheFirstAndTheLastState();
        resetToNoState();
        stepWithTheFirstAndTheLastInputs();
        stepToTheResetState();
        stepsAreAllAtOnce();
        stepWithNoInputs();
        reachAtOnce();
        reachAfterTheMostSteps();
        reachFromTheResetState();
        reachThatIsNone();
        reachOfNoNet();
        witnessOfNoSteps();
        witnessOfTheMostSteps();
        witnessOfAShorterRow();
        witnessAtAnotherK();
        witnessOfNoReach();
        witnessAfterAReachThatIsNone();
        witnessComesFirst();
        statesThatAreOneOrAll();
        statesThatAreLeftForGood();
        statesOfNoWhat();
        questionsChangeNothing();
        Check.end();
    }

    private static void standStill(NetDesk x) {
        for (int register = 3; register < 7; register++) {
            x.next(register, -1);
        }
    }

    /** The net that is true in a state, and there with these inputs alone (-1: with all). */
    private static int netOf(NetDesk x, int state, int inputs) {
        int net = 8;
        for (int v = inputs == -1 ? 3 : 0; v < 7; v++) {
            boolean value = Check.bit(8 * state + Math.max(inputs, 0), v);
            net = value ? x.gate(4, v, net, 7) : x.gate(4, v, 7, net);
        }
        return net;
    }

    /** "if register is not 3..6": 3 and 6 are. */
    private static void nextOfTheFirstAndTheLastRegister() {
        NetDesk x = new NetDesk();
        Check.due("next 3", x.next(3, 8), true);
        Check.due("step", x.step(0), 1);
        Check.due("next 6", x.next(6, 8), true);
        Check.due("step", x.step(0), 9);
    }

    /** "that of net a": whichever it is. */
    private static void nextOfTheFirstAndTheLastNet() {
        for (Start start : Start.values()) {
            NetDesk x = start.make();
            standStill(x);
            x.reset(0);
            x.step(-1);
            Check.due("net 0", x.next(4, 0), true);
            Check.due("step", x.step(0), 0);
            Check.due("step", x.step(1), 2);
            Check.due("the last net", x.next(3, start.nets - 1), true);
        }
        NetDesk full = Start.FULL.make();
        full.next(3, 31);
        full.reset(4);
        Check.due("RESET state", full.step(-1), 4);
        Check.due("5 is true, and 3 is not", full.step(0), 5);
        Check.due("4 is not true, and 3 is", full.step(0), 4);
    }

    /** "or its own (a -1): true": after another one, and if it has its own. */
    private static void nextOfItsOwn() {
        for (int register = 3; register < 7; register++) {
            NetDesk x = new NetDesk();
            int value = 1 << register - 3;
            Check.due("always", x.next(register, 8), true);
            Check.due("step", x.step(0), value);
            Check.due("never", x.next(register, 7), true);
            Check.due("its own", x.next(register, -1), true);
            Check.due("step", x.step(0), value);
            Check.due("its own again", x.next(register, -1), true);
            Check.due("step", x.step(0), value);
            x.reset(15 - value);
            Check.due("RESET state", x.step(-1), 15 - value);
            Check.due("step", x.step(0), 15 - value);
        }
    }

    /** "false, and nothing changes, if register is not 3..6". */
    private static void nextOfNoRegister() {
        for (Start start : Start.values()) {
            for (int wrong : Check.allBut(3, 6)) {
                for (int a = -1; a < 9; a += 9) {
                    int net = a;
                    Later.dueFalseAndNoChange(start, "next " + wrong + " " + net,
                            x -> x.next(wrong, net));
                }
            }
            for (int input = 0; input < 3; input++) {
                int wrong = input;
                Later.dueFalseAndNoChange(start, "next " + wrong, x -> x.next(wrong, 8));
            }
            Later.dueFalseAndNoChange(start, "next 8", x -> x.next(8, 8));
        }
    }

    /** "false, and nothing changes, if .. a none of these". */
    private static void nextOfNoNet() {
        for (Start start : Start.values()) {
            for (int wrong : Check.allBut(-1, start.nets - 1)) {
                for (int r = 3; r < 7; r++) {
                    int register = r;
                    Later.dueFalseAndNoChange(start, "next " + register + " " + wrong,
                            x -> x.next(register, wrong));
                }
            }
        }
    }

    /** Both are wrong. */
    private static void nextOfNeither() {
        for (Start start : Start.values()) {
            Later.dueFalseAndNoChange(start, "next 2 -2", x -> x.next(2, -2));
            Later.dueFalseAndNoChange(start, "next 7 32", x -> x.next(7, 32));
        }
    }

    /** "if it is not 0..15": 0 and 15 are. */
    private static void resetToTheFirstAndTheLastState() {
        for (Start start : Start.values()) {
            NetDesk x = start.make();
            Check.due("reset 15", x.reset(15), true);
            Check.due("RESET state", x.step(-1), 15);
            Check.due("reset 0", x.reset(0), true);
            Check.due("RESET state", x.step(-1), 0);
            Check.due("reset 0 again", x.reset(0), true);
            Check.due("RESET state", x.step(-1), 0);
        }
    }

    /** "false, and nothing changes, if it is not 0..15". */
    private static void resetToNoState() {
        for (Start start : Start.values()) {
            for (int wrong : Check.allBut(0, 15)) {
                Later.dueFalseAndNoChange(start, "reset " + wrong, x -> x.reset(wrong));
            }
        }
        NetDesk x = Start.BUSY.make();
        Check.due("reset 16", x.reset(16), false);
        Check.due("reset -1", x.reset(-1), false);
        Check.due("the RESET state before", x.step(-1), 4);
    }

    /** Values of inputs are "a number 0..7 (bit k for variable k)". */
    private static void stepWithTheFirstAndTheLastInputs() {
        NetDesk x = new NetDesk();
        for (int k = 0; k < 3; k++) {
            x.next(3 + k, k);
        }
        Check.due("step 7", x.step(7), 7);
        Check.due("step 0", x.step(0), 0);
        Check.due("step 4", x.step(4), 4);
        Check.due("step 1", x.step(1), 1);
    }

    /** "or (inputs -1) is in the RESET state again". */
    private static void stepToTheResetState() {
        NetDesk x = new NetDesk();
        Desks.makeCounter(x);
        Check.due("step", x.step(0), 1);
        Check.due("RESET state", x.step(-1), 0);
        Check.due("step", x.step(0), 1);
        x.reset(15);
        Check.due("another RESET state", x.step(-1), 15);
        Check.due("again", x.step(-1), 15);
        Check.due("after 15 comes 0", x.step(0), 0);
    }

    /** "each register gets what its NEXT function is ..., all at once". */
    private static void stepsAreAllAtOnce() {
        NetDesk x = new NetDesk();
        x.next(3, 4);
        x.next(4, 3);
        x.next(5, 6);
        x.next(6, 5);
        x.reset(9);
        Check.due("RESET state", x.step(-1), 9);
        Check.due("exchanged", x.step(0), 6);
        Check.due("exchanged again", x.step(0), 9);
    }

    /** "-1, and nothing changes, if inputs are none of these". */
    private static void stepWithNoInputs() {
        for (Start start : Start.values()) {
            for (int wrong : Check.allBut(-1, 7)) {
                Later.dueNoChange(start, "step " + wrong, -1, x -> x.step(wrong));
            }
        }
        NetDesk x = new NetDesk();
        Desks.makeCounter(x);
        Check.due("step", x.step(7), 1);
        Check.due("step 8", x.step(8), -1);
        Check.due("step -2", x.step(-2), -1);
        Check.due("step", x.step(0), 2);
    }

    /** "The least number of STEPS .. after which net a is true for some inputs": none. */
    private static void reachAtOnce() {
        for (int state = 0; state < 16; state++) {
            NetDesk x = new NetDesk();
            x.reset(state);
            Check.due("always", x.reach(8), 0);
            Check.due("true in it", x.reach(netOf(x, state, -1)), 0);
            Check.due("true in it with 7", x.reach(netOf(x, state, 7)), 0);
            Check.due("witness", x.witness(0), 7);
        }
    }

    /** The counter needs 15 STEPS to the state before its own, around 15 and 0. */
    private static void reachAfterTheMostSteps() {
        for (int state = 0; state < 16; state++) {
            NetDesk x = new NetDesk();
            Desks.makeCounter(x);
            x.reset(state);
            int before = netOf(x, (state + 15) % 16, -1);
            Check.due("from " + state + " to the one before", x.reach(before), 15);
            int after = netOf(x, (state + 1) % 16, -1);
            Check.due("from " + state + " to the one after", x.reach(after), 1);
        }
    }

    /** "from the RESET state": not from that of the machine. */
    private static void reachFromTheResetState() {
        NetDesk x = new NetDesk();
        Desks.makeCounter(x);
        for (int k = 1; k < 8; k++) {
            Check.due("step", x.step(0), k);
        }
        Check.due("from 0", x.reach(6), 8);
        x.reset(6);
        Check.due("from 6", x.reach(6), 2);
        Check.due("the machine stayed", x.step(0), 8);
        standStill(x);
        Check.due("none from 6", x.reach(6), -1);
        Check.due("the machine stayed", x.step(0), 8);
    }

    /** "-1 if there is none": nothing is changed by it, the witness neither. */
    private static void reachThatIsNone() {
        for (Start start : Start.values()) {
            Later.dueNoChange(start, "reach of never", -1, x -> x.reach(7));
        }
        for (int state = 0; state < 16; state++) {
            NetDesk x = new NetDesk();
            x.reset(state);
            for (int k = 0; k < 4; k++) {
                int want = Check.bit(state, k) ? 0 : -1;
                Check.due("register in " + state, x.reach(3 + k), want);
            }
            Check.due("another state", x.reach(netOf(x, 15 - state, -1)), -1);
        }
        NetDesk x = new NetDesk();
        Desks.makeCounter(x);
        x.next(6, -1);
        Check.due("8 and more can't be reached", x.reach(6), -1);
    }

    /** "-1 if there is .. no such net": nothing is changed by it, the witness neither. */
    private static void reachOfNoNet() {
        for (Start start : Start.values()) {
            for (int wrong : Check.allBut(0, start.nets - 1)) {
                Later.dueNoChange(start, "reach " + wrong, -1, x -> x.reach(wrong));
            }
        }
    }

    /** "with k = n those for which the net is true then": n is 0. */
    private static void witnessOfNoSteps() {
        for (int inputs = 0; inputs < 8; inputs++) {
            NetDesk x = new NetDesk();
            Check.due("reach", x.reach(netOf(x, 0, inputs)), 0);
            Check.due("the inputs", x.witness(0), inputs);
            Check.due("no more", x.witness(1), -1);
        }
        NetDesk x = new NetDesk();
        Check.due("reach", x.reach(8), 0);
        Check.due("the least inputs", x.witness(0), 0);
    }

    /** The counter goes on with inputs 6 alone, and the net is true with inputs 5 alone. */
    private static void witnessOfTheMostSteps() {
        NetDesk x = new NetDesk();
        int carry = x.gate(1, 1, x.gate(1, 2, x.gate(0, 0, 0, 0), 0), 0);
        for (int register = 3; register < 7; register++) {
            x.next(register, x.gate(3, register, carry, 0));
            carry = x.gate(1, register, carry, 0);
        }
        x.undo(9);
        Check.due("reach", x.reach(netOf(x, 15, 5)), 15);
        for (int k = 0; k < 15; k++) {
            Check.due("witness " + k, x.witness(k), 6);
        }
        Check.due("witness 15", x.witness(15), 5);
        Check.due("witness 16", x.witness(16), -1);
        Check.due("witness -1", x.witness(-1), -1);
    }

    /** "Of the latest reach": nothing is left of a longer row before it. */
    private static void witnessOfAShorterRow() {
        NetDesk x = Start.BUSY.make();
        Check.due("the row before", x.witness(2), 5);
        Check.due("reach", x.reach(2), 0);
        Check.due("the row", x.witness(0), 4);
        for (int k = 1; k < 17; k++) {
            Check.due("no more at " + k, x.witness(k), -1);
        }
    }

    /** "-1 for another k". */
    private static void witnessAtAnotherK() {
        for (int wrong : Check.allBut(0, 2)) {
            Later.dueNoChange(Start.BUSY, "witness " + wrong, -1, x -> x.witness(wrong));
        }
        NetDesk x = Start.BUSY.make();
        Check.due("witness 0", x.witness(0), 1);
        Check.due("witness 1", x.witness(1), 3);
        Check.due("witness 2", x.witness(2), 5);
        Check.due("witness 3", x.witness(3), -1);
    }

    /** "-1 .. if there was none": no reach yet, or none that was not -1. */
    private static void witnessOfNoReach() {
        for (int k = -1; k < 17; k++) {
            int any = k;
            Later.dueNoChange(Start.NEW, "witness " + any, -1, x -> x.witness(any));
        }
        NetDesk x = new NetDesk();
        Check.due("reach", x.reach(7), -1);
        Check.due("reach", x.reach(9), -1);
        Check.due("reach", x.reach(-1), -1);
        Check.due("reach", x.reach(6), -1);
        for (int k = -1; k < 17; k++) {
            Check.due("witness " + k, x.witness(k), -1);
        }
    }

    /** "Of the latest reach that was not -1": one that was does not count. */
    private static void witnessAfterAReachThatIsNone() {
        NetDesk x = Start.BUSY.make();
        int[] none = {7, 12, 32, -1};
        for (int a : none) {
            Check.due("reach " + a, x.reach(a), -1);
            Check.due("witness 0", x.witness(0), 1);
            Check.due("witness 1", x.witness(1), 3);
            Check.due("witness 2", x.witness(2), 5);
            Check.due("witness 3", x.witness(3), -1);
        }
    }

    /** "which comes first (by its first ones, then the second ..)". */
    private static void witnessComesFirst() {
        NetDesk x = new NetDesk();
        x.next(3, 2);
        int low = x.gate(1, 0, x.gate(1, 1, 3, 0), 0);
        int high = x.gate(1, x.gate(0, 3, 0, 0), 2, 0);
        x.next(4, x.gate(2, low, high, 0));
        Check.due("at once with 4", x.reach(4), 1);
        Check.due("the first inputs", x.witness(0), 4);
        int both = x.gate(1, 3, 4, 0);
        Check.due("both with 4", x.reach(both), 1);
        Check.due("the first inputs", x.witness(0), 4);
        int late = x.gate(1, 4, x.gate(0, 3, 0, 0), 0);
        Check.due("4 without 3", x.reach(late), 2);
        Check.due("the first inputs", x.witness(0), 4);
        Check.due("the second ones", x.witness(1), 3);
        Check.due("the last ones", x.witness(2), 0);
    }

    /** "0: how many there are; 1: the greatest of the least numbers ..; 2: the sum of 2^state". */
    private static void statesThatAreOneOrAll() {
        for (int state = 0; state < 16; state++) {
            NetDesk x = new NetDesk();
            x.reset(state);
            Check.due("one", x.states(0), 1);
            Check.due("no STEPS", x.states(1), 0);
            Check.due("itself", x.states(2), 1 << state);
            Desks.makeCounter(x);
            Check.due("all", x.states(0), 16);
            Check.due("the most STEPS", x.states(1), 15);
            Check.due("all", x.states(2), 65535);
        }
    }

    /** The RESET state needs no STEPS, and counts though no STEP leads into it. */
    private static void statesThatAreLeftForGood() {
        NetDesk x = new NetDesk();
        for (int register = 3; register < 7; register++) {
            x.next(register, 8);
        }
        Check.due("two", x.states(0), 2);
        Check.due("one STEP", x.states(1), 1);
        Check.due("0 and 15", x.states(2), 1 + 32768);
        x.reset(15);
        Check.due("one", x.states(0), 1);
        Check.due("no STEPS", x.states(1), 0);
        Check.due("15", x.states(2), 32768);
    }

    /** "else -1". */
    private static void statesOfNoWhat() {
        for (Start start : Start.values()) {
            for (int wrong : Check.allBut(0, 2)) {
                Later.dueNoChange(start, "states " + wrong, -1, x -> x.states(wrong));
            }
        }
    }

    private static void questionsChangeNothing() {
        int[] want = {12, 4, 48059};
        for (int w = 0; w < 3; w++) {
            int what = w;
            Later.dueNoChange(Start.BUSY, "states " + what, want[what], x -> x.states(what));
        }
        Later.dueNoChange(Start.BUSY, "witness 1", 3, x -> x.witness(1));
    }
}
