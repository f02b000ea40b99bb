/** The edges that promises 1 to 3 name: a new object, gate, undo. */
public final class NetEdgesTest {
    public static void main(String[] args) {
        nets0To8AreThere();
        net9IsNot();
        newObjectsAreAtFirstAsSaid();
        gatesFindTheOneThatIsThere();
        newOnesAreNumberedNext();
        wrongKinds();
        firstArgumentsThatAreNoNet();
        secondArgumentsThatAreNoNet();
        thirdArgumentsThatAreNoNet();
        secondArgumentsThatAreNoVariable();
        thirdArgumentsThatAreNot0Or1();
        unusedArgumentsAreFree();
        the32ndNetIsMade();
        newOnesOnAFullDesk();
        foundOnesOnAFullDesk();
        wrongGatesOnAFullDesk();
        undoOfTheirNumber();
        undoOf9();
        undoOneByOne();
        undoBelow9();
        undoAboveTheirNumber();
        undoneNetsAreNoMore();
        undoneFunctionsAreMadeAnew();
        undoLeavesNextFunctions();
        undoMakesRoom();
        Check.end();
    }

    /** "Nets 0 to 8 alone": these are there, for every method that takes a net. */
    private static void nets0To8AreThere() {
        for (int a = 0; a < 9; a++) {
            NetDesk x = new NetDesk();
            String net = "net " + a;
            Check.due(net + " holds", x.holds(a, 127), a != 7);
            Check.due(net + " holds", x.holds(a, 0), a == 8);
            Check.due(net + " ask", x.ask(a, 0), a < 7 ? 64 : a == 7 ? 0 : 128);
            Check.due(net + " shape", x.shape(a, 0), a == 0 ? 1 : 0);
            Check.due(net + " same", x.same(a, 3, 3), true);
            Check.due(net + " prime", x.prime(a, 1), -1);
            Check.due(net + " reach", x.reach(a), a < 3 || a == 8 ? 0 : -1);
            Check.due(net + " check a", x.check(0, a, 0) >= 0, true);
            Check.due(net + " check b", x.check(6, 0, a) >= 0, true);
            Check.due(net + " alike", x.alike(a, -1), a < 3 || a > 6 ? 1 : 2);
            Check.due(net + " gate a", x.gate(1, a, 8, 0), a);
            Check.due(net + " gate b", x.gate(1, 8, a, 0), a);
            Check.due(net + " gate c", x.gate(4, 7, 7, a), a);
            Check.due(net + " next", x.next(3, a), true);
        }
    }

    /** "Nets 0 to 8 alone": no other is, for no method that takes a net. */
    private static void net9IsNot() {
        dueNoNet(Start.NEW, 9);
        for (int wrong : Check.allBut(0, 8)) {
            dueNoNet(Start.NEW, wrong);
        }
        Check.due("undo of none", new NetDesk().undo(9), 0);
        Check.due("undo above", new NetDesk().undo(10), -1);
    }

    private static void dueNoNet(Start start, int a) {
        NetDesk x = start.make();
        String net = "on a " + start + " desk net " + a;
        Check.due(net + " gate a", x.gate(0, a, 0, 0), -1);
        Check.due(net + " gate b", x.gate(1, 0, a, 0), -1);
        Check.due(net + " gate c", x.gate(4, 0, 1, a), -1);
        Check.due(net + " next", a != -1 && x.next(3, a), false);
        for (int what = 0; what < 6; what++) {
            Check.due(net + " ask", x.ask(a, what), -1);
        }
        Check.due(net + " shape", x.shape(a, 0), -1);
        Check.due(net + " same", x.same(a, 0, 0), false);
        Check.due(net + " holds", x.holds(a, 0), false);
        Check.due(net + " prime", x.prime(a, 0), -1);
        Check.due(net + " reach", x.reach(a), -1);
        for (int kind = 0; kind < 8; kind++) {
            Check.due(net + " check a", x.check(kind, a, 8), -1);
        }
        Check.due(net + " check b", x.check(6, 8, a), -1);
        Check.due(net + " check b", x.check(7, 8, a), -1);
        Check.due(net + " alike", x.alike(a, 0), -1);
        Check.due(net + " alike", x.alike(a, -1), -1);
    }

    /** "at first that of the register itself", "0 at first", "at first 0": NEXT, RESET, state. */
    private static void newObjectsAreAtFirstAsSaid() {
        NetDesk x = new NetDesk();
        Check.due("no witness", x.witness(0), -1);
        Check.due("state", x.step(7), 0);
        Check.due("RESET state", x.step(-1), 0);
        Check.due("states", x.states(2), 1);
        for (int state = 0; state < 16; state++) {
            x.reset(state);
            x.step(-1);
            for (int inputs = 0; inputs < 8; inputs++) {
                Check.due("state " + state, x.step(inputs), state);
            }
        }
    }

    /** "the one that is there": whichever it is, the first and the last, too. */
    private static void gatesFindTheOneThatIsThere() {
        for (Start start : Start.values()) {
            for (int a = 0; a < start.nets; a++) {
                int net = a;
                Later.dueNoChange(start, "gate of net " + a, a, x -> x.gate(2, net, 7, 0));
            }
        }
    }

    /** "or a new one, numbered next". */
    private static void newOnesAreNumberedNext() {
        NetDesk x = new NetDesk();
        for (int k = 0; k < 7; k++) {
            Check.due("not " + k, x.gate(0, k, 0, 0), 9 + k);
            Check.due("not " + k + " again", x.gate(0, k, 0, 0), 9 + k);
        }
        Check.due("undo", x.undo(12), 4);
        Check.due("not 6", x.gate(0, 6, 0, 0), 12);
        Check.due("not 3", x.gate(0, 3, 0, 0), 13);
        Check.due("not 2", x.gate(0, 2, 0, 0), 11);
    }

    /** "-1, and nothing changes, if kind is not 0..9". */
    private static void wrongKinds() {
        for (Start start : Start.values()) {
            for (int wrong : Check.allBut(0, 9)) {
                Later.dueNoChange(start, "gate " + wrong, -1, x -> x.gate(wrong, 0, 1, 1));
            }
        }
        NetDesk x = new NetDesk();
        Check.due("gate 10", x.gate(10, 0, 1, 1), -1);
        Check.due("gate -1", x.gate(-1, 0, 1, 1), -1);
        Check.due("the next one", x.gate(9, 9, 1, 1), -1);
        Check.due("the next one", x.gate(0, 0, 1, 1), 9);
    }

    /** "an a .. that is used is no net". */
    private static void firstArgumentsThatAreNoNet() {
        for (Start start : Start.values()) {
            for (int wrong : Check.allBut(0, start.nets - 1)) {
                for (int kind = 0; kind < 10; kind++) {
                    int k = kind;
                    Later.dueNoChange(start, "gate " + k + " with a " + wrong, -1,
                            x -> x.gate(k, wrong, 1, 1));
                }
            }
        }
    }

    /** "an .. b .. that is used is no net": of kinds 1 to 5. */
    private static void secondArgumentsThatAreNoNet() {
        for (Start start : Start.values()) {
            for (int wrong : Check.allBut(0, start.nets - 1)) {
                for (int kind = 1; kind < 6; kind++) {
                    int k = kind;
                    Later.dueNoChange(start, "gate " + k + " with b " + wrong, -1,
                            x -> x.gate(k, 0, wrong, 1));
                }
            }
        }
        NetDesk x = new NetDesk();
        Check.due("b may be any net", x.gate(1, 0, 8, 0), 0);
        Check.due("b may be any net", x.gate(2, 0, 7, 0), 0);
    }

    /** "an .. or c that is used is no net": of kinds 4, 5 and 8. */
    private static void thirdArgumentsThatAreNoNet() {
        for (Start start : Start.values()) {
            for (int wrong : Check.allBut(0, start.nets - 1)) {
                for (int kind : new int[] {4, 5, 8}) {
                    Later.dueNoChange(start, "gate " + kind + " with c " + wrong, -1,
                            x -> x.gate(kind, 0, 1, wrong));
                }
            }
        }
        NetDesk x = new NetDesk();
        Check.due("not used: a is always", x.gate(4, 8, 1, 9), -1);
        Check.due("not used: a is never", x.gate(4, 7, 9, 1), -1);
        Check.due("not used: a and b are the same", x.gate(5, 1, 1, 9), -1);
        Check.due("not used: a does not depend on b", x.gate(8, 0, 1, 9), -1);
        Check.due("c may be any net", x.gate(8, 0, 0, 8), 8);
    }

    /** "(variable, for b of 6 to 9": a net that is no variable will not do. */
    private static void secondArgumentsThatAreNoVariable() {
        for (Start start : Start.values()) {
            for (int wrong : Check.allBut(0, 6)) {
                for (int kind = 6; kind < 10; kind++) {
                    int k = kind;
                    Later.dueNoChange(start, "gate " + k + " by " + wrong, -1,
                            x -> x.gate(k, 0, wrong, 1));
                }
            }
        }
        NetDesk x = new NetDesk();
        for (int kind = 6; kind < 10; kind++) {
            Check.due("by net 7", x.gate(kind, 0, 7, 1), -1);
            Check.due("by net 8", x.gate(kind, 0, 8, 1), -1);
            Check.due("by variable 6", x.gate(kind, 0, 6, 1), 0);
            Check.due("by variable 0", x.gate(kind, 6, 0, 1), 6);
        }
    }

    /** "0 or 1, for c of 9)": another net will not do. */
    private static void thirdArgumentsThatAreNot0Or1() {
        for (Start start : Start.values()) {
            for (int wrong : Check.allBut(0, 1)) {
                Later.dueNoChange(start, "gate 9 to " + wrong, -1, x -> x.gate(9, 0, 0, wrong));
            }
        }
        NetDesk x = new NetDesk();
        for (int wrong = 2; wrong < 9; wrong++) {
            Check.due("to " + wrong, x.gate(9, 0, 0, wrong), -1);
        }
        Check.due("to 0", x.gate(9, 0, 0, 0), 7);
        Check.due("to 1", x.gate(9, 0, 0, 1), 8);
    }

    /** "an a, b or c that is used": the others may be any number. */
    private static void unusedArgumentsAreFree() {
        NetDesk x = new NetDesk();
        for (int any : Check.allBut(0, 31)) {
            Check.due("not", x.gate(0, 0, any, any), 9);
            Check.due("and", x.gate(1, 0, 1, any), 10);
            Check.due("or", x.gate(2, 0, 1, any), 11);
            Check.due("just one", x.gate(3, 0, 1, any), 12);
            Check.due("some", x.gate(6, 0, 0, any), 8);
            Check.due("all", x.gate(7, 0, 0, any), 7);
        }
    }

    /** "At most 32 nets are there": so many may be. */
    private static void the32ndNetIsMade() {
        NetDesk x = Start.FULL.make();
        Check.due("the last one", x.undo(31), 1);
        Check.due("the 32nd", x.gate(0, 16, 0, 0), 31);
        Check.due("it is there", x.ask(31, 2), 7);
        Check.due("it is there", x.gate(0, 31, 0, 0), 16);
        Check.due("net 32 is not", x.ask(32, 0), -1);
        Check.due("the 33rd", x.gate(4, 3, 4, 5), -1);
    }

    /** "or it would be a new one and there are 32": of every kind. */
    private static void newOnesOnAFullDesk() {
        dueNewOnFull(0, 16, 0, 0);
        dueNewOnFull(1, 1, 2, 0);
        dueNewOnFull(2, 1, 2, 0);
        dueNewOnFull(3, 0, 1, 0);
        dueNewOnFull(4, 6, 1, 2);
        dueNewOnFull(5, 3, 4, 5);
        dueNewOnFull(6, 16, 0, 0);
        dueNewOnFull(7, 16, 0, 0);
        dueNewOnFull(8, 16, 0, 3);
        dueNewOnFull(9, 16, 0, 0);
        dueNewOnFull(9, 16, 0, 1);
    }

    private static void dueNewOnFull(int kind, int a, int b, int c) {
        String call = "new gate " + kind;
        Later.dueNoChange(Start.FULL, call, -1, x -> x.gate(kind, a, b, c));
        NetDesk x = Start.FULL.make();
        Check.due(call, x.gate(kind, a, b, c), -1);
        Check.due(call + " before room", x.undo(31), 1);
        Check.due(call + " with room", x.gate(kind, a, b, c), 31);
        Check.due(call + " is there", x.gate(kind, a, b, c), 31);
    }

    /** "the one that is there": on a full desk, too, of every kind. */
    private static void foundOnesOnAFullDesk() {
        dueFoundOnFull(0, 6, 0, 0, 15);
        dueFoundOnFull(0, 15, 0, 0, 6);
        dueFoundOnFull(1, 6, 0, 0, 20);
        dueFoundOnFull(2, 6, 0, 0, 24);
        dueFoundOnFull(3, 6, 5, 0, 30);
        dueFoundOnFull(4, 12, 5, 4, 31);
        dueFoundOnFull(5, 2, 0, 1, 16);
        dueFoundOnFull(6, 17, 0, 0, 3);
        dueFoundOnFull(7, 21, 0, 0, 3);
        dueFoundOnFull(8, 21, 3, 4, 22);
        dueFoundOnFull(9, 25, 4, 1, 12);
        dueFoundOnFull(9, 25, 4, 0, 3);
    }

    private static void dueFoundOnFull(int kind, int a, int b, int c, int want) {
        Later.dueNoChange(Start.FULL, "found gate " + kind, want, x -> x.gate(kind, a, b, c));
    }

    /** Wrong arguments on a full desk: neither a new one nor one that is there. */
    private static void wrongGatesOnAFullDesk() {
        NetDesk x = Start.FULL.make();
        for (int kind = 0; kind < 10; kind++) {
            Check.due("a 32", x.gate(kind, 32, 0, 0), -1);
        }
        Check.due("b 32", x.gate(1, 7, 32, 0), -1);
        Check.due("c 32", x.gate(4, 8, 0, 32), -1);
        Check.due("b 31 is no variable", x.gate(6, 7, 31, 0), -1);
    }

    /** "above their number": their number itself is not, and none are from it on. */
    private static void undoOfTheirNumber() {
        for (Start start : Start.values()) {
            int n = start.nets;
            Later.dueNoChange(start, "undo " + n, 0, x -> x.undo(n));
        }
    }

    /** "if n is below 9": 9 is not, and takes away all that were made. */
    private static void undoOf9() {
        for (Start start : Start.values()) {
            NetDesk x = start.make();
            Check.due("on a " + start + " desk undo 9", x.undo(9), start.nets - 9);
            Check.due("once more", x.undo(9), 0);
            Check.due("above", x.undo(10), -1);
            Check.due("net 8", x.ask(8, 0), 128);
            Check.due("net 9", x.ask(9, 0), -1);
            Check.due("numbers anew", x.gate(2, 1, 6, 0), 9);
        }
    }

    /** "how many that are". */
    private static void undoOneByOne() {
        NetDesk x = Start.FULL.make();
        for (int n = 31; n >= 9; n--) {
            Check.due("undo " + n, x.undo(n), 1);
            Check.due("net " + n, x.ask(n, 0), -1);
            Check.due("net " + (n - 1), x.ask(n - 1, 0) >= 0, true);
        }
        for (int n = 9; n < 33; n++) {
            Check.due("undo " + n, Start.FULL.make().undo(n), 32 - n);
        }
    }

    /** "-1, and nothing changes, if n is below 9". */
    private static void undoBelow9() {
        for (Start start : Start.values()) {
            for (int n = -1; n < 9; n++) {
                dueNoUndo(start, n);
            }
            dueNoUndo(start, Integer.MIN_VALUE);
            dueNoUndo(start, 9 - 256);
        }
    }

    /** "-1, and nothing changes, if n is .. above their number". */
    private static void undoAboveTheirNumber() {
        for (Start start : Start.values()) {
            for (int wrong : Check.allBut(9, start.nets)) {
                dueNoUndo(start, wrong);
            }
        }
        dueNoUndo(Start.NEW, 32);
        dueNoUndo(Start.BUSY, 32);
        dueNoUndo(Start.FULL, 33);
    }

    private static void dueNoUndo(Start start, int n) {
        Later.dueNoChange(start, "undo " + n, -1, x -> x.undo(n));
    }

    /** "Nets from n on are no more": for no method that takes a net. */
    private static void undoneNetsAreNoMore() {
        dueNoNet(Start.BUSY, 12);
        NetDesk x = Start.FULL.make();
        Check.due("undo", x.undo(20), 12);
        Check.due("the last", x.ask(19, 2), 33);
        for (int a = 20; a < 32; a++) {
            Check.due("no more", x.ask(a, 0), -1);
            Check.due("no more", x.gate(0, a, 0, 0), -1);
            Check.due("no more", x.next(3, a), false);
            Check.due("no more", x.reach(a), -1);
        }
        Check.due("above", x.undo(21), -1);
    }

    /** "Nets from n on are no more": what had their functions is a new one. */
    private static void undoneFunctionsAreMadeAnew() {
        NetDesk x = Start.FULL.make();
        x.undo(25);
        Check.due("just one of 5 and 6", x.gate(3, 5, 6, 0), 25);
        Check.due("just one of 3 and 4", x.gate(3, 3, 4, 0), 26);
        Check.due("of 25", x.ask(25, 2), 96);
        Check.due("of 26", x.ask(26, 2), 24);
        Check.due("as many as were made", x.undo(9), 18);
    }

    /** "(NEXT functions stay.)": when the net is no more, and when another has its number. */
    private static void undoLeavesNextFunctions() {
        NetDesk x = new NetDesk();
        for (int register = 3; register < 7; register++) {
            Check.due("not " + register, x.gate(0, register, 0, 0), register + 6);
            Check.due("next", x.next(register, register + 6), true);
        }
        Check.due("undo", x.undo(9), 4);
        Check.due("step", x.step(0), 15);
        Check.due("step", x.step(7), 0);
        for (int register = 3; register < 7; register++) {
            Check.due("another", x.gate(1, 0, register, 0), register + 6);
        }
        Check.due("step", x.step(0), 15);
        Check.due("step", x.step(7), 0);
        Check.due("states", x.states(2), 1 + (1 << 15));
        Check.due("reach", x.reach(6), 1);
        Check.due("check", x.check(1, 6, 0), 0x00ff);
        Check.due("alike", x.alike(6, 15), 8);
    }

    /** After undo there is room for as many as are no more. */
    private static void undoMakesRoom() {
        NetDesk x = Start.FULL.make();
        Check.due("undo", x.undo(30), 2);
        Check.due("one", x.gate(1, 1, 2, 0), 30);
        Check.due("two", x.gate(2, 1, 2, 0), 31);
        Check.due("one too many", x.gate(3, 1, 2, 0), -1);
        Check.due("one of them", x.gate(1, 2, 1, 0), 30);
    }
}
