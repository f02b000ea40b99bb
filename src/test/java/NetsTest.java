/** Promises 1 to 3: a new object, gate, undo. */
public final class NetsTest {
    private interface Function {
        boolean of(int x);
    }

    public static void main(String[] args) {
        newObjectHasItsNets();
        gatesMakeTheirFunctions();
        gatesOfGatesMakeTheirFunctions();
        quantifiersMakeTheirFunctions();
        putsAndSetsMakeTheirFunctions();
        aFunctionThatIsThereIsFound();
        functionsThatDifferOnceAreTwo();
        undoTakesNetsAway();
        Check.end();
    }

    private static void dueFunction(String call, NetDesk x, int net, Function want) {
        for (int at = 0; at < 128; at++) {
            Check.due(call + " at " + at, x.holds(net, at), want.of(at));
        }
    }

    /** On an object of its own, as the calls on one are limited. */
    private static void dueGate(int kind, int a, int b, int c, Function want) {
        NetDesk x = new NetDesk();
        Check.due("gate of kind " + kind, x.gate(kind, a, b, c), 9);
        dueFunction("gate of kind " + kind, x, 9, want);
    }

    private static boolean v(int x, int k) {
        return Check.bit(x, k);
    }

    private static void newObjectHasItsNets() {
        for (int k = 0; k < 7; k++) {
            int variable = k;
            dueFunction("net " + k, new NetDesk(), k, at -> v(at, variable));
        }
        dueFunction("net 7", new NetDesk(), 7, at -> false);
        dueFunction("net 8", new NetDesk(), 8, at -> true);
        NetDesk x = new NetDesk();
        Check.due("ask of no net", x.ask(9, 0), -1);
        Check.due("undo of no net", x.undo(9), 0);
        Check.due("undo above", x.undo(10), -1);
    }

    private static void gatesMakeTheirFunctions() {
        dueGate(0, 2, 0, 0, at -> !v(at, 2));
        dueGate(1, 1, 6, 0, at -> v(at, 1) && v(at, 6));
        dueGate(2, 0, 4, 0, at -> v(at, 0) || v(at, 4));
        dueGate(3, 3, 6, 0, at -> v(at, 3) != v(at, 6));
        dueGate(4, 5, 0, 6, at -> v(at, 5) ? v(at, 0) : v(at, 6));
        dueGate(5, 1, 3, 5, at -> Integer.bitCount(at & 42) >= 2);
    }

    private static void gatesOfGatesMakeTheirFunctions() {
        NetDesk x = new NetDesk();
        Check.due("and", x.gate(1, 0, 5, 0), 9);
        Check.due("or", x.gate(2, 3, 9, 0), 10);
        Check.due("choice", x.gate(4, 9, 6, 10), 11);
        dueFunction("choice", x, 11, at -> v(at, 0) && v(at, 5) ? v(at, 6) : v(at, 3));
    }

    /** Net 10 is true where 0 and 3 are, or 6 is. */
    private static void quantifiersMakeTheirFunctions() {
        NetDesk x = new NetDesk();
        Check.due("and", x.gate(1, 0, 3, 0), 9);
        Check.due("or", x.gate(2, 9, 6, 0), 10);
        Check.due("some", x.gate(6, 10, 0, 0), 11);
        dueFunction("some", x, 11, at -> v(at, 3) || v(at, 6));
        Check.due("all", x.gate(7, 10, 0, 0), 6);
        Check.due("all of 6", x.gate(7, 10, 6, 0), 9);
        Check.due("some of 6", x.gate(6, 10, 6, 0), 8);
        Check.due("all of the variable", x.gate(7, 4, 4, 0), 7);
        Check.due("some of the variable", x.gate(6, 4, 4, 0), 8);
        Check.due("some of one it does not depend on", x.gate(6, 10, 5, 0), 10);
        Check.due("all of one it does not depend on", x.gate(7, 10, 5, 0), 10);
        Check.due("not", x.gate(0, 0, 0, 0), 12);
        Check.due("some of a falling one", x.gate(6, 12, 0, 0), 8);
        Check.due("all of a falling one", x.gate(7, 12, 0, 0), 7);
    }

    private static void putsAndSetsMakeTheirFunctions() {
        NetDesk x = new NetDesk();
        Check.due("just one", x.gate(3, 0, 1, 0), 9);
        Check.due("and", x.gate(1, 9, 5, 0), 10);
        Check.due("put", x.gate(8, 10, 1, 6), 11);
        dueFunction("put", x, 11, at -> v(at, 0) != v(at, 6) && v(at, 5));
        Check.due("put of a net with the variable in it", x.gate(8, 10, 0, 9), 12);
        dueFunction("put of a net with the variable in it", x, 12,
                at -> (v(at, 0) != v(at, 1)) != v(at, 1) && v(at, 5));
        Check.due("put of the variable itself", x.gate(8, 10, 0, 0), 10);
        Check.due("put of never", x.gate(8, 10, 5, 7), 7);
        Check.due("put of always", x.gate(8, 10, 5, 8), 9);
        Check.due("set to 0", x.gate(9, 9, 1, 0), 0);
        Check.due("set to 1", x.gate(9, 9, 1, 1), 13);
        dueFunction("set to 1", x, 13, at -> !v(at, 0));
        Check.due("set of 6 to 1", x.gate(9, 6, 6, 1), 8);
        Check.due("set of 6 to 0", x.gate(9, 6, 6, 0), 7);
    }

    private static void aFunctionThatIsThereIsFound() {
        NetDesk x = new NetDesk();
        Check.due("not never", x.gate(0, 7, 0, 0), 8);
        Check.due("not always", x.gate(0, 8, 0, 0), 7);
        Check.due("and of itself", x.gate(1, 6, 6, 0), 6);
        Check.due("not 0", x.gate(0, 0, 0, 0), 9);
        Check.due("not not 0", x.gate(0, 9, 0, 0), 0);
        Check.due("just one with always", x.gate(3, 0, 8, 0), 9);
        Check.due("not 6", x.gate(0, 6, 0, 0), 10);
        Check.due("not 6 again", x.gate(4, 6, 7, 8), 10);
        Check.due("their number", x.undo(11), 0);
    }

    private static void functionsThatDifferOnceAreTwo() {
        NetDesk x = new NetDesk();
        int none = Desks.noneOfAll(x);
        Check.due("true for 0 alone", none, 15);
        Check.due("true but for 0", x.gate(0, none, 0, 0), 14);
        Check.due("true for 0 or by variable 6", x.gate(2, none, 6, 0), 16);
    }

    private static NetDesk fullDesk() {
        NetDesk x = new NetDesk();
        int number = 9;
        for (int a = 0; a < 7; a++) {
            for (int b = a + 1; b < 7; b++) {
                Check.due("filling", x.gate(1, a, b, 0), number);
                number++;
            }
        }
        Check.due("filling", x.gate(0, 0, 0, 0), 30);
        Check.due("filling", x.gate(0, 1, 0, 0), 31);
        return x;
    }

    private static void undoTakesNetsAway() {
        NetDesk x = fullDesk();
        Check.due("none", x.undo(32), 0);
        Check.due("two", x.undo(30), 2);
        Check.due("no more", x.ask(30, 0), -1);
        Check.due("no more", x.holds(30, 0), false);
        Check.due("the last", x.ask(29, 0), 32);
        Check.due("all", x.undo(9), 21);
        Check.due("none is left", x.undo(9), 0);
        Check.due("no such net", x.gate(0, 9, 0, 0), -1);
        Check.due("numbers anew", x.gate(2, 0, 1, 0), 9);
        dueFunction("numbers anew", x, 9, at -> v(at, 0) || v(at, 1));
        Check.due("what was undone is made anew", x.gate(1, 0, 1, 0), 10);
    }
}
