/** The edges that promises 6 to 10 name: ask, shape, same, holds, prime. */
public final class QuestionEdgesTest {
    public static void main(String[] args) {
        howManyFromNoneToAll();
        leastFromFirstToLast();
        leastOfNone();
        dependingOnNoneAndOnAll();
        dependingByOneAssignment();
        decisionsOfNone();
        decisionsByTheFirstAndTheLast();
        decisionsThatAreManyOrFew();
        primesOfNoneAndOfAll();
        primesWithoutAnEssentialOne();
        asksOfNoNet();
        asksOfNoWhat();
        shapesOfOneChange();
        shapesOfNoNet();
        shapesByNoVariable();
        sameWithItself();
        sameOfNoNet();
        sameByNoVariable();
        holdsAtTheFirstAndTheLast();
        holdsOfNoNet();
        holdsAtNoAssignment();
        primesFromTheLeastCodeToTheGreatest();
        primesAscend();
        primesThatAreNone();
        primesOfNoNet();
        questionsChangeNothing();
        Check.end();
    }

    /** The net that is true where all variables are. */
    private static int allOfAll(NetDesk x) {
        int all = 0;
        for (int v = 1; v < 7; v++) {
            all = x.gate(1, all, v, 0);
        }
        return all;
    }

    /** True unless all seven variables are the same: 42 prime cubes, none of them essential. */
    private static int notAllAlike(NetDesk x) {
        int alike = x.gate(2, allOfAll(x), Desks.noneOfAll(x), 0);
        return x.gate(0, alike, 0, 0);
    }

    /** "0: for how many assignments it is true". */
    private static void howManyFromNoneToAll() {
        NetDesk x = new NetDesk();
        int none = Desks.noneOfAll(x);
        Check.due("never", x.ask(7, 0), 0);
        Check.due("once", x.ask(none, 0), 1);
        Check.due("but once", x.ask(x.gate(0, none, 0, 0), 0), 127);
        Check.due("always", x.ask(8, 0), 128);
    }

    /** "1: the least of them". */
    private static void leastFromFirstToLast() {
        NetDesk x = new NetDesk();
        int none = Desks.noneOfAll(x);
        Check.due("always", x.ask(8, 1), 0);
        Check.due("0 alone", x.ask(none, 1), 0);
        Check.due("all but 0", x.ask(x.gate(0, none, 0, 0), 1), 1);
        Check.due("variable 6", x.ask(6, 1), 64);
        Check.due("127 alone", x.ask(allOfAll(x), 1), 127);
    }

    /** "-1 if there is none". */
    private static void leastOfNone() {
        NetDesk x = new NetDesk();
        Check.due("never", x.ask(7, 1), -1);
        Check.due("0 and not 0", x.ask(x.gate(1, 0, x.gate(0, 0, 0, 0), 0), 1), -1);
    }

    /** "2: the sum of 2^k for the variables k on which it depends". */
    private static void dependingOnNoneAndOnAll() {
        NetDesk x = new NetDesk();
        Check.due("never", x.ask(7, 2), 0);
        Check.due("always", x.ask(8, 2), 0);
        Check.due("variable 0", x.ask(0, 2), 1);
        Check.due("variable 6", x.ask(6, 2), 64);
        int odd = Desks.oddOfAll(x);
        Check.due("odd", x.ask(odd, 2), 127);
        for (int v = 0; v < 7; v++) {
            Check.due("odd with a value", x.ask(x.gate(9, odd, v, 1), 2), 127 - (1 << v));
        }
    }

    /** A single assignment makes a net depend on all variables. */
    private static void dependingByOneAssignment() {
        NetDesk x = new NetDesk();
        Check.due("0 alone", x.ask(Desks.noneOfAll(x), 2), 127);
        NetDesk y = new NetDesk();
        Check.due("127 alone", y.ask(allOfAll(y), 2), 127);
        Check.due("not 127 alone", y.ask(y.gate(0, allOfAll(y), 0, 0), 2), 127);
    }

    /** "3: .. how many different ones depend on variable k": none do. */
    private static void decisionsOfNone() {
        NetDesk x = new NetDesk();
        Check.due("never", x.ask(7, 3), 0);
        Check.due("always", x.ask(8, 3), 0);
    }

    /** "for all k from 0 to 6": variable 0 with no values given, variable 6 with all others. */
    private static void decisionsByTheFirstAndTheLast() {
        NetDesk x = new NetDesk();
        for (int v = 0; v < 7; v++) {
            Check.due("variable " + v, x.ask(v, 3), 1);
        }
        Check.due("0 and 6", x.ask(x.gate(1, 0, 6, 0), 3), 2);
        Check.due("just one of 0 and 6", x.ask(x.gate(3, 0, 6, 0), 3), 3);
        Check.due("127 alone", x.ask(allOfAll(x), 3), 7);
        Check.due("odd", x.ask(Desks.oddOfAll(x), 3), 13);
    }

    /** One of four variables, picked by two: few if these come first, many if they come last. */
    private static void decisionsThatAreManyOrFew() {
        NetDesk x = new NetDesk();
        int first = x.gate(4, 1, x.gate(4, 0, 2, 3), x.gate(4, 0, 4, 5));
        Check.due("picked by 0 and 1", x.ask(first, 3), 7);
        int last = x.gate(4, 6, x.gate(4, 5, 0, 1), x.gate(4, 5, 2, 3));
        Check.due("picked by 5 and 6", x.ask(last, 3), 29);
    }

    /** "4: how many prime cubes; 5: how many essential ones". */
    private static void primesOfNoneAndOfAll() {
        NetDesk x = new NetDesk();
        int odd = Desks.oddOfAll(x);
        int none = Desks.noneOfAll(x);
        for (int what = 4; what < 6; what++) {
            Check.due("never", x.ask(7, what), 0);
            Check.due("always", x.ask(8, what), 1);
            Check.due("0 alone", x.ask(none, what), 1);
            Check.due("odd", x.ask(odd, what), 64);
        }
    }

    /** "if it covers an assignment that no other prime cube of the net covers": none does. */
    private static void primesWithoutAnEssentialOne() {
        NetDesk x = new NetDesk();
        int net = notAllAlike(x);
        Check.due("primes", x.ask(net, 4), 42);
        Check.due("essentials", x.ask(net, 5), 0);
    }

    /** "-1 if there is no such net". */
    private static void asksOfNoNet() {
        for (Start start : Start.values()) {
            for (int wrong : Check.allBut(0, start.nets - 1)) {
                for (int what = 0; what < 6; what++) {
                    int w = what;
                    Later.dueNoChange(start, "ask " + w + " of net " + wrong, -1,
                            x -> x.ask(wrong, w));
                }
            }
        }
    }

    /** "-1 if there is no such .. what". */
    private static void asksOfNoWhat() {
        for (Start start : Start.values()) {
            for (int wrong : Check.allBut(0, 5)) {
                Later.dueNoChange(start, "ask " + wrong, -1, x -> x.ask(8, wrong));
                int last = start.nets - 1;
                Later.dueNoChange(start, "ask " + wrong, -1, x -> x.ask(last, wrong));
                Later.dueNoChange(start, "ask of none " + wrong, -1, x -> x.ask(-1, wrong));
            }
        }
    }

    /** "0 not; 1 it never becomes false ..; 2 it never becomes true then; 3 it does both". */
    private static void shapesOfOneChange() {
        NetDesk x = new NetDesk();
        int all = allOfAll(x);
        int none = Desks.noneOfAll(x);
        int both = x.gate(2, all, none, 0);
        for (int v = 0; v < 7; v++) {
            Check.due("never by " + v, x.shape(7, v), 0);
            Check.due("always by " + v, x.shape(8, v), 0);
            Check.due("127 alone by " + v, x.shape(all, v), 1);
            Check.due("0 alone by " + v, x.shape(none, v), 2);
            Check.due("0 and 127 by " + v, x.shape(both, v), 3);
        }
    }

    /** "-1 if there is no such net". */
    private static void shapesOfNoNet() {
        for (Start start : Start.values()) {
            for (int wrong : Check.allBut(0, start.nets - 1)) {
                Later.dueNoChange(start, "shape of net " + wrong, -1, x -> x.shape(wrong, 0));
            }
        }
    }

    /** "-1 if there is no such .. variable". */
    private static void shapesByNoVariable() {
        for (Start start : Start.values()) {
            for (int wrong : Check.allBut(0, 6)) {
                Later.dueNoChange(start, "shape by " + wrong, -1, x -> x.shape(0, wrong));
                Later.dueNoChange(start, "shape by " + wrong, -1, x -> x.shape(8, wrong));
            }
        }
    }

    /** "Whether net a stays the same when variables v and w exchange their values": v is w. */
    private static void sameWithItself() {
        NetDesk x = Start.FULL.make();
        for (int a = 0; a < 32; a++) {
            for (int v = 0; v < 7; v++) {
                Check.due("net " + a + " with " + v, x.same(a, v, v), true);
            }
        }
    }

    /** "false if one of them is not there": the net. */
    private static void sameOfNoNet() {
        for (Start start : Start.values()) {
            for (int wrong : Check.allBut(0, start.nets - 1)) {
                Later.dueFalseAndNoChange(start, "same of net " + wrong,
                        x -> x.same(wrong, 1, 1));
            }
        }
    }

    /** "false if one of them is not there": a variable, or both, be they the same or not. */
    private static void sameByNoVariable() {
        for (Start start : Start.values()) {
            for (int wrong : Check.allBut(0, 6)) {
                Later.dueFalseAndNoChange(start, "same v " + wrong, x -> x.same(8, wrong, 0));
                Later.dueFalseAndNoChange(start, "same w " + wrong, x -> x.same(8, 0, wrong));
                Later.dueFalseAndNoChange(start, "same " + wrong, x -> x.same(8, wrong, wrong));
            }
        }
        NetDesk x = new NetDesk();
        Check.due("7 is no variable", x.same(8, 7, 8), false);
        Check.due("6 is", x.same(8, 6, 0), true);
    }

    /** An assignment is "a number 0..127". */
    private static void holdsAtTheFirstAndTheLast() {
        NetDesk x = new NetDesk();
        int all = allOfAll(x);
        int none = Desks.noneOfAll(x);
        Check.due("0 alone at 0", x.holds(none, 0), true);
        Check.due("0 alone at 127", x.holds(none, 127), false);
        Check.due("127 alone at 0", x.holds(all, 0), false);
        Check.due("127 alone at 127", x.holds(all, 127), true);
        for (int v = 0; v < 7; v++) {
            Check.due("0 alone beside 0", x.holds(none, 1 << v), false);
            Check.due("127 alone beside 127", x.holds(all, 127 - (1 << v)), false);
        }
    }

    /** "false if there is none of the two": the net. */
    private static void holdsOfNoNet() {
        for (Start start : Start.values()) {
            for (int wrong : Check.allBut(0, start.nets - 1)) {
                Later.dueFalseAndNoChange(start, "net " + wrong, x -> x.holds(wrong, 127));
                Later.dueFalseAndNoChange(start, "net " + wrong, x -> x.holds(wrong, 128));
            }
        }
    }

    /** "false if there is none of the two": the assignment. */
    private static void holdsAtNoAssignment() {
        for (Start start : Start.values()) {
            for (int wrong : Check.allBut(0, 127)) {
                Later.dueFalseAndNoChange(start, "always at " + wrong, x -> x.holds(8, wrong));
                Later.dueFalseAndNoChange(start, "never at " + wrong, x -> x.holds(7, wrong));
            }
        }
    }

    /** A code is "the sum of these times 3^k": from seven 0s to seven 2s. */
    private static void primesFromTheLeastCodeToTheGreatest() {
        NetDesk x = new NetDesk();
        Check.due("0 alone", x.prime(Desks.noneOfAll(x), 0), 0);
        Check.due("127 alone", x.prime(allOfAll(x), 0), 1093);
        Check.due("variable 0", x.prime(0, 0), 2185);
        Check.due("variable 6", x.prime(6, 0), 2186 - 729);
        Check.due("always", x.prime(8, 0), 2186);
    }

    /** "in ascending order of their codes". */
    private static void primesAscend() {
        NetDesk x = new NetDesk();
        int net = notAllAlike(x);
        int before = -1;
        for (int k = 0; k < 42; k++) {
            int code = x.prime(net, k);
            Check.due("prime " + k + " is greater", code > before, true);
            before = code;
        }
        Check.due("the first: 5 true, 6 false", x.prime(net, 0), 2186 - 243 - 2 * 729);
        Check.due("the last: 1 true, 0 false", before, 2186 - 3 - 2 * 1);
        Check.due("one more", x.prime(net, 42), -1);
    }

    /** "-1 if there is none": before the first, after the last, and of never. */
    private static void primesThatAreNone() {
        for (Start start : Start.values()) {
            for (int wrong : Check.allBut(0, 0)) {
                Later.dueNoChange(start, "prime " + wrong, -1, x -> x.prime(8, wrong));
            }
            for (int k = -1; k < 2; k++) {
                int wrong = k;
                Later.dueNoChange(start, "prime of never", -1, x -> x.prime(7, wrong));
            }
        }
        NetDesk x = new NetDesk();
        int odd = Desks.oddOfAll(x);
        Check.due("the last", x.prime(odd, 63), 1093);
        Check.due("one more", x.prime(odd, 64), -1);
        Check.due("never after it", x.prime(7, 0), -1);
        Check.due("always after it", x.prime(8, 1), -1);
    }

    /** "-1 if there is .. no such net". */
    private static void primesOfNoNet() {
        for (Start start : Start.values()) {
            for (int wrong : Check.allBut(0, start.nets - 1)) {
                Later.dueNoChange(start, "prime of net " + wrong, -1, x -> x.prime(wrong, 0));
            }
        }
    }

    /** A question that is answered changes nothing, either. */
    private static void questionsChangeNothing() {
        for (Start start : Start.values()) {
            for (int what = 0; what < 6; what++) {
                int w = what;
                int want = new int[] {64, 64, 64, 1, 1, 1}[w];
                Later.dueNoChange(start, "ask " + w, want, x -> x.ask(6, w));
            }
            Later.dueNoChange(start, "shape", 1, x -> x.shape(6, 6));
            Later.dueFalseAndNoChange(start, "same", x -> x.same(6, 5, 6));
            Later.dueFalseAndNoChange(start, "holds", x -> x.holds(6, 63));
            Later.dueNoChange(start, "prime", 2186 - 729, x -> x.prime(6, 0));
        }
    }
}
