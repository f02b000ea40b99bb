/** The edges that promises 15 and 16 name: check, alike. */
public final class WayEdgesTest {
    private static final int ALL = 65535;

    public static void main(String[] args) {
        checksOfTheEmptySet();
        checksOfTheFullSet();
        setsAreOfSomeInputs();
        oneStepIsNotAtOnce();
        comingToAtOnceOrLater();
        comingToAroundTheEnd();
        waysThatStandStill();
        waysNeverEnd();
        waysWithinUntil();
        secondNetsThatAreNotUsed();
        checksOfNoKind();
        checksOfNoFirstNet();
        checksOfNoSecondNet();
        alikeFromOneToAll();
        alikeIsTheLeast();
        alikeByOneInput();
        alikeAfterTheMostSteps();
        alikeOfNoNet();
        alikeOfNoState();
        questionsChangeNothing();
        Check.end();
    }

    private static NetDesk counter() {
        NetDesk x = new NetDesk();
        Desks.makeCounter(x);
        return x;
    }

    /** Only 0 and 15 are left in place: all other states step to 15 with input 0, else to 0. */
    private static NetDesk fork() {
        NetDesk x = new NetDesk();
        int some = x.gate(2, x.gate(2, 3, 4, 0), x.gate(2, 5, 6, 0), 0);
        int all = x.gate(1, x.gate(1, 3, 4, 0), x.gate(1, 5, 6, 0), 0);
        int after = x.gate(2, all, x.gate(1, some, 0, 0), 0);
        for (int register = 3; register < 7; register++) {
            x.next(register, after);
        }
        x.undo(9);
        return x;
    }

    private static int stateNet(NetDesk x, int state) {
        int net = 8;
        for (int k = 0; k < 4; k++) {
            boolean value = Check.bit(state, k);
            net = value ? x.gate(4, 3 + k, net, 7) : x.gate(4, 3 + k, 7, net);
        }
        return net;
    }

    /** A net that is never true has no states in its SET. */
    private static void checksOfTheEmptySet() {
        for (NetDesk x : new NetDesk[] {new NetDesk(), counter(), fork(), Start.BUSY.make()}) {
            for (int kind = 0; kind < 8; kind++) {
                Check.due("kind " + kind + " of none", x.check(kind, 7, 7), 0);
            }
            for (int kind = 6; kind < 8; kind++) {
                Check.due("kind " + kind + " until none", x.check(kind, 8, 7), 0);
            }
        }
    }

    /** A net that is always true has all states in its SET. */
    private static void checksOfTheFullSet() {
        for (NetDesk x : new NetDesk[] {new NetDesk(), counter(), fork(), Start.BUSY.make()}) {
            for (int kind = 0; kind < 8; kind++) {
                Check.due("kind " + kind + " of all", x.check(kind, 8, 8), ALL);
            }
            for (int kind = 6; kind < 8; kind++) {
                Check.due("kind " + kind + " until all", x.check(kind, 7, 8), ALL);
            }
        }
    }

    /** "the states in which it is true for some inputs": for one of the eight is enough. */
    private static void setsAreOfSomeInputs() {
        for (int inputs = 0; inputs < 8; inputs++) {
            NetDesk x = new NetDesk();
            int net = 8;
            for (int k = 0; k < 3; k++) {
                net = Check.bit(inputs, k) ? x.gate(4, k, net, 7) : x.gate(4, k, 7, net);
            }
            int inSix = x.gate(1, net, 6, 0);
            for (int kind = 0; kind < 6; kind++) {
                Check.due("inputs " + inputs, x.check(kind, net, 0), ALL);
                Check.due("inputs " + inputs + " and 6", x.check(kind, inSix, 0), 0xff00);
            }
            Check.due("inputs " + inputs, x.check(7, 7, inSix), 0xff00);
        }
    }

    /** "0: some STEP leads into A; 1: all do": to be in A at once is not enough. */
    private static void oneStepIsNotAtOnce() {
        NetDesk x = counter();
        for (int state = 0; state < 16; state++) {
            x.undo(9);
            int net = stateNet(x, state);
            int before = 1 << (state + 15) % 16;
            Check.due("some STEP into " + state, x.check(0, net, 0), before);
            Check.due("all STEPS into " + state, x.check(1, net, 0), before);
        }
        NetDesk y = fork();
        int last = stateNet(y, 15);
        Check.due("some STEP into 15", y.check(0, last, 0), ALL - 1);
        Check.due("all STEPS into 15", y.check(1, last, 0), 1 << 15);
        int first = stateNet(y, 0);
        Check.due("some STEP into 0", y.check(0, first, 0), ALL - (1 << 15));
        Check.due("all STEPS into 0", y.check(1, first, 0), 1);
    }

    /** "2: A is come to (at once or later)", "3 .. the same on all ways". */
    private static void comingToAtOnceOrLater() {
        NetDesk x = fork();
        int one = stateNet(x, 1);
        Check.due("some way, at once", x.check(2, one, 0), 2);
        Check.due("all ways, at once", x.check(3, one, 0), 2);
        int last = stateNet(x, 15);
        Check.due("some way, at once or later", x.check(2, last, 0), ALL - 1);
        Check.due("all ways, at once or later", x.check(3, last, 0), 1 << 15);
        x.undo(9);
        int either = x.gate(2, stateNet(x, 0), stateNet(x, 15), 0);
        Check.due("all ways, one or the other", x.check(3, either, 0), ALL);
    }

    /** It takes 15 STEPS from the state after, past 15 to 0. */
    private static void comingToAroundTheEnd() {
        NetDesk x = counter();
        for (int state = 0; state < 16; state++) {
            x.undo(9);
            int net = stateNet(x, state);
            int not = x.gate(0, net, 0, 0);
            Check.due("some way to " + state, x.check(2, net, 0), ALL);
            Check.due("all ways to " + state, x.check(3, net, 0), ALL);
            Check.due("some way without " + state, x.check(4, not, 0), 0);
            Check.due("all ways without " + state, x.check(5, not, 0), 0);
            Check.due("some way until " + state, x.check(6, not, net), ALL);
            Check.due("all ways until " + state, x.check(7, not, net), ALL);
        }
    }

    /** Registers at first keep what they have: a state has but one way, which stays in it. */
    private static void waysThatStandStill() {
        NetDesk x = new NetDesk();
        for (int state = 0; state < 16; state++) {
            x.undo(9);
            int net = stateNet(x, state);
            for (int kind = 0; kind < 6; kind++) {
                Check.due("kind " + kind, x.check(kind, net, 0), 1 << state);
            }
            for (int kind = 6; kind < 8; kind++) {
                Check.due("kind " + kind + " as B", x.check(kind, 8, net), 1 << state);
                Check.due("kind " + kind + " as A", x.check(kind, net, 7), 0);
            }
        }
    }

    /** "(Ways never end.)": one that turns in A for ever does not come to B. */
    private static void waysNeverEnd() {
        NetDesk x = new NetDesk();
        x.next(3, x.gate(2, 0, 3, 0));
        x.undo(9);
        int not = x.gate(0, 3, 0, 0);
        Check.due("some way to 3", x.check(2, 3, 0), ALL);
        Check.due("all ways to 3", x.check(3, 3, 0), 0xaaaa);
        Check.due("some way without 3", x.check(4, not, 0), 0x5555);
        Check.due("all ways without 3", x.check(5, not, 0), 0);
        Check.due("some way until 3", x.check(6, not, 3), ALL);
        Check.due("all ways until 3", x.check(7, not, 3), 0xaaaa);
    }

    /** "6: B is come to, being in A until then": a state between that is not in A is too many. */
    private static void waysWithinUntil() {
        NetDesk x = counter();
        int goal = stateNet(x, 10);
        int gap = stateNet(x, 4);
        int not = x.gate(0, gap, 0, 0);
        for (int kind = 6; kind < 8; kind++) {
            Check.due("from 5 to 10", x.check(kind, not, goal), 0x07e0);
            Check.due("from 8 to 10", x.check(kind, 6, goal), 0x0700);
            Check.due("B need not be in A", x.check(kind, x.gate(0, 6, 0, 0), 6), ALL);
        }
    }

    /** "(b only for 6 and 7)": for the others it may be any number. */
    private static void secondNetsThatAreNotUsed() {
        int[] want = {0x7f80, 0x7f80, ALL, ALL, 0, 0};
        for (int k = 0; k < 6; k++) {
            int kind = k;
            NetDesk x = counter();
            Check.due("kind " + kind, x.check(kind, 6, 6), want[kind]);
            for (int any : Check.allBut(0, 8)) {
                Check.due("kind " + kind + " b " + any, x.check(kind, 6, any), want[kind]);
            }
        }
    }

    /** "-1 if kind is not 0..7". */
    private static void checksOfNoKind() {
        for (Start start : Start.values()) {
            for (int wrong : Check.allBut(0, 7)) {
                Later.dueNoChange(start, "check " + wrong, -1, x -> x.check(wrong, 8, 8));
            }
        }
    }

    /** "-1 if .. there is no such net": a. */
    private static void checksOfNoFirstNet() {
        for (Start start : Start.values()) {
            for (int wrong : Check.allBut(0, start.nets - 1)) {
                for (int k = 0; k < 8; k++) {
                    int kind = k;
                    Later.dueNoChange(start, "check " + kind + " a " + wrong, -1,
                            x -> x.check(kind, wrong, 8));
                }
            }
        }
    }

    /** "-1 if .. there is no such net": b, for 6 and 7. */
    private static void checksOfNoSecondNet() {
        for (Start start : Start.values()) {
            for (int wrong : Check.allBut(0, start.nets - 1)) {
                for (int k = 6; k < 8; k++) {
                    int kind = k;
                    Later.dueNoChange(start, "check " + kind + " b " + wrong, -1,
                            x -> x.check(kind, 8, wrong));
                    Later.dueNoChange(start, "check " + kind + " a and b " + wrong, -1,
                            x -> x.check(kind, wrong, wrong));
                }
            }
        }
    }

    /** "for -1 how many there are of which no lesser one looks like them". */
    private static void alikeFromOneToAll() {
        NetDesk x = counter();
        Check.due("never", x.alike(7, -1), 1);
        Check.due("always", x.alike(8, -1), 1);
        Check.due("an input", x.alike(0, -1), 1);
        for (int k = 0; k < 4; k++) {
            Check.due("register " + (3 + k), x.alike(3 + k, -1), 2 << k);
        }
    }

    /** "For a state the least one that looks like it": 0 has none that is less. */
    private static void alikeIsTheLeast() {
        for (Start start : Start.values()) {
            NetDesk x = start.make();
            for (int a = 0; a < start.nets; a++) {
                Check.due("net " + a, x.alike(a, 0), 0);
            }
            Check.due("the last state", x.alike(8, 15), 0);
        }
        NetDesk x = counter();
        for (int state = 0; state < 16; state++) {
            Check.due("register 3 in " + state, x.alike(3, state), state % 2);
            Check.due("register 6 in " + state, x.alike(6, state), state);
        }
    }

    /** "whatever inputs come, the net is the same": in one of eight it is not. */
    private static void alikeByOneInput() {
        for (int inputs = 0; inputs < 8; inputs++) {
            NetDesk x = new NetDesk();
            int net = 6;
            for (int k = 0; k < 3; k++) {
                net = Check.bit(inputs, k) ? x.gate(4, k, net, 7) : x.gate(4, k, 7, net);
            }
            Check.due("now with " + inputs, x.alike(net, -1), 2);
            Check.due("now with " + inputs, x.alike(net, 15), 8);
            x.next(5, net);
            Check.due("after a STEP with " + inputs, x.alike(5, -1), 4);
            Check.due("after a STEP with " + inputs, x.alike(5, 11), 8);
        }
    }

    /** "now and after each STEP": 14 STEPS show that 0 and 1 do not look alike. */
    private static void alikeAfterTheMostSteps() {
        NetDesk x = counter();
        int last = stateNet(x, 15);
        Check.due("how many", x.alike(last, -1), 16);
        Check.due("1 is not like 0", x.alike(last, 1), 1);
        for (int register = 3; register < 7; register++) {
            x.next(register, x.gate(2, x.gate(3, register, carry(x, register), 0), last, 0));
        }
        Check.due("with the last state kept: how many", x.alike(last, -1), 16);
        Check.due("with the last state kept: 1", x.alike(last, 1), 1);
    }

    /** Whether all registers before this one are true. */
    private static int carry(NetDesk x, int register) {
        int carry = 8;
        for (int before = 3; before < register; before++) {
            carry = x.gate(1, before, carry, 0);
        }
        return carry;
    }

    /** "-1 if there is no such net". */
    private static void alikeOfNoNet() {
        for (Start start : Start.values()) {
            for (int wrong : Check.allBut(0, start.nets - 1)) {
                Later.dueNoChange(start, "alike of net " + wrong, -1, x -> x.alike(wrong, 0));
                Later.dueNoChange(start, "alike of net " + wrong, -1, x -> x.alike(wrong, -1));
            }
        }
    }

    /** "-1 if there is no such .. state". */
    private static void alikeOfNoState() {
        for (Start start : Start.values()) {
            for (int wrong : Check.allBut(-1, 15)) {
                Later.dueNoChange(start, "alike " + wrong, -1, x -> x.alike(8, wrong));
                Later.dueNoChange(start, "alike " + wrong, -1, x -> x.alike(6, wrong));
                Later.dueNoChange(start, "alike of none " + wrong, -1, x -> x.alike(-1, wrong));
            }
        }
    }

    private static void questionsChangeNothing() {
        for (int k = 0; k < 8; k++) {
            int kind = k;
            Later.dueNoChange(Start.BUSY, "check " + kind, ALL, x -> x.check(kind, 8, 8));
        }
        Later.dueNoChange(Start.BUSY, "alike -1", 1, x -> x.alike(8, -1));
        Later.dueNoChange(Start.BUSY, "alike 15", 0, x -> x.alike(8, 15));
    }
}
