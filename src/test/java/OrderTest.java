/** Promise 17, sentence by sentence, and the limit of 512 calls. */
public final class OrderTest {
    private static final int ALL = 65535;

    public static void main(String[] args) {
        witnessAfterGates();
        witnessAfterUndo();
        witnessAfterNext();
        witnessAfterReset();
        witnessAfterStep();
        witnessAfterQuestions();
        nextLeavesTheMachine();
        resetLeavesTheMachine();
        neverLeftFromTheStateItselfOn();
        neverLeftOnTheWay();
        untilAtOnce();
        the512thCallIsAnswered();
        laterCallsStillEnd();
        Check.end();
    }

    /** What the BUSY desk found: 2 STEPS, with 1 and 3, and then 5. */
    private static void dueRow(String when, NetDesk x) {
        int[] want = {-1, 1, 3, 5, -1};
        for (int k = 0; k < want.length; k++) {
            Check.due("witness " + (k - 1) + " after " + when, x.witness(k - 1), want[k]);
        }
    }

    /** "whatever gates .. change later": the number of the net it was found for is taken. */
    private static void witnessAfterGates() {
        NetDesk x = Start.BUSY.make();
        dueRow("reach", x);
        Check.due("gate", x.gate(0, 2, 0, 0), 12);
        dueRow("a gate", x);
        for (int v = 3; v < 7; v++) {
            x.gate(0, v, 0, 0);
        }
        dueRow("gates", x);
    }

    /** "whatever .. undo .. change later". */
    private static void witnessAfterUndo() {
        NetDesk x = Start.BUSY.make();
        Check.due("undo", x.undo(9), 3);
        dueRow("undo", x);
        NetDesk y = new NetDesk();
        int net = y.gate(1, 1, 2, 0);
        Check.due("reach", y.reach(net), 0);
        Check.due("undo", y.undo(net), 1);
        Check.due("witness of the net that is no more", y.witness(0), 6);
        Check.due("another of its number", y.gate(1, 0, 2, 0), net);
        Check.due("witness of the net that is no more", y.witness(0), 6);
    }

    /** "whatever .. next .. change later": the row leads nowhere then. */
    private static void witnessAfterNext() {
        for (int a = -1; a < 9; a++) {
            NetDesk x = Start.BUSY.make();
            for (int register = 3; register < 7; register++) {
                Check.due("next", x.next(register, a), true);
                dueRow("next", x);
            }
        }
    }

    /** "whatever .. reset .. change later". */
    private static void witnessAfterReset() {
        for (int state = 0; state < 16; state++) {
            NetDesk x = Start.BUSY.make();
            Check.due("reset", x.reset(state), true);
            dueRow("reset", x);
        }
    }

    /** "whatever .. step change later". */
    private static void witnessAfterStep() {
        NetDesk x = Start.BUSY.make();
        for (int inputs = -1; inputs < 8; inputs++) {
            x.step(inputs);
            dueRow("step", x);
        }
    }

    private static void witnessAfterQuestions() {
        NetDesk x = Start.BUSY.make();
        for (int what = 0; what < 6; what++) {
            x.ask(9, what);
            x.states(what);
        }
        for (int kind = 0; kind < 8; kind++) {
            x.check(kind, 9, 10);
        }
        x.alike(10, -1);
        x.alike(10, 3);
        x.prime(10, 0);
        x.shape(9, 0);
        x.same(9, 0, 1);
        x.holds(9, 3);
        dueRow("questions", x);
    }

    private static void standStill(NetDesk x) {
        for (int register = 3; register < 7; register++) {
            x.next(register, -1);
        }
    }

    /** "next and reset: the state of the machine stays": the next STEP starts from it. */
    private static void nextLeavesTheMachine() {
        NetDesk x = new NetDesk();
        Desks.makeCounter(x);
        for (int k = 1; k < 6; k++) {
            Check.due("step", x.step(0), k);
        }
        standStill(x);
        Check.due("step after next", x.step(0), 5);
        for (int register = 3; register < 7; register++) {
            Check.due("next", x.next(register, 8), true);
            Check.due("next", x.next(register, 7), true);
            Check.due("next", x.next(register, -1), true);
        }
        Check.due("step after next", x.step(7), 5);
    }

    /** "next and reset: the state of the machine stays": until step -1. */
    private static void resetLeavesTheMachine() {
        for (int state = 0; state < 16; state++) {
            NetDesk x = Start.BUSY.make();
            standStill(x);
            Check.due("reset", x.reset(state), true);
            Check.due("step after reset", x.step(0), 11);
            Check.due("states after reset", x.states(2), 1 << state);
            Check.due("step after states", x.step(0), 11);
            Check.due("RESET state", x.step(-1), state);
        }
    }

    /** All STEPS lead into 15, where register 6 is true, and stay there. */
    private static NetDesk sink() {
        NetDesk x = new NetDesk();
        for (int register = 3; register < 7; register++) {
            x.next(register, 8);
        }
        return x;
    }

    /** "with 4 and 5 A is never left if the state itself .. [is] in A". */
    private static void neverLeftFromTheStateItselfOn() {
        NetDesk x = sink();
        for (int kind = 4; kind < 6; kind++) {
            Check.due("kind " + kind, x.check(kind, 6, 0), 0xff00);
            Check.due("kind " + kind, x.check(kind, 3, 0), 0xaaaa);
        }
    }

    /** "and all that the way comes to are in A". */
    private static void neverLeftOnTheWay() {
        NetDesk x = sink();
        int low = x.gate(0, 6, 0, 0);
        int some = x.gate(2, low, x.gate(1, 3, 4, 0), 0);
        for (int kind = 4; kind < 6; kind++) {
            Check.due("kind " + kind + " of 0 to 7", x.check(kind, low, 0), 0);
            Check.due("kind " + kind + " with 11 and 15", x.check(kind, some, 0), 0x88ff);
        }
        x.next(6, 0);
        Check.due("some way", x.check(4, low, 0), 0x00ff);
        Check.due("all ways", x.check(5, low, 0), 0);
    }

    /** "with 6 and 7 B may be come to at once, too": in A or not. */
    private static void untilAtOnce() {
        NetDesk x = sink();
        int low = x.gate(0, 6, 0, 0);
        for (int kind = 6; kind < 8; kind++) {
            Check.due("kind " + kind + " in none", x.check(kind, 7, low), 0x00ff);
            Check.due("kind " + kind + " outside A", x.check(kind, 6, low), 0x00ff);
            Check.due("kind " + kind + " inside A", x.check(kind, low, low), 0x00ff);
            Check.due("kind " + kind + " of all", x.check(kind, 7, 8), ALL);
            Check.due("kind " + kind + " or after a STEP", x.check(kind, 3, 6), 0xffaa);
        }
    }

    /** "An object is used for at most 512 calls": so many it is. */
    private static void the512thCallIsAnswered() {
        NetDesk x = new NetDesk();
        Desks.makeCounter(x);
        int made = 13;
        for (int k = 1; made < 511; k++) {
            Check.due("call " + made, x.step(k % 8), k % 16);
            made++;
        }
        Check.due("the 512th call", x.reach(6), 8);
    }

    /** What later calls answer is free, but LANGUAGE.md wants every call to end and not throw. */
    private static void laterCallsStillEnd() {
        int[] any = {Integer.MIN_VALUE, -2, -1, 0, 3, 6, 7, 8, 9, 31, 32, Integer.MAX_VALUE};
        NetDesk x = Start.FULL.make();
        int calls = 0;
        for (int a : any) {
            for (int b : any) {
                for (int c : any) {
                    callAll(x, a, b, c);
                    calls++;
                }
            }
        }
        Check.due("all calls ended", calls, any.length * any.length * any.length);
    }

    private static void callAll(NetDesk x, int a, int b, int c) {
        for (int kind = -1; kind < 11; kind++) {
            x.gate(kind, a, b, c);
            x.check(kind, a, b);
        }
        x.undo(c);
        x.next(b, a);
        x.reset(a);
        x.ask(a, b);
        x.shape(a, b);
        x.same(a, b, c);
        x.holds(a, b);
        x.prime(a, b);
        x.step(c);
        x.reach(a);
        x.witness(b);
        x.states(c);
        x.alike(a, b);
    }
}
