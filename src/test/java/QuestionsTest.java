/** Promises 6 to 10: ask, shape, same, holds, prime. */
public final class QuestionsTest {
    public static void main(String[] args) {
        asksOfTheFirstNets();
        asksOfCountsAndLeasts();
        asksOfDependence();
        asksOfDecisions();
        asksOfPrimesAndEssentials();
        asksOfTheFirstAssignment();
        asksOfTheLastNet();
        shapes();
        sames();
        holdings();
        primesInOrder();
        primesOfManyVariables();
        Check.end();
    }

    private static void dueAsks(String net, NetDesk x, int a, int... want) {
        for (int what = 0; what < want.length; what++) {
            Check.due("ask " + what + " of " + net, x.ask(a, what), want[what]);
        }
    }

    private static void asksOfTheFirstNets() {
        NetDesk x = new NetDesk();
        for (int k = 0; k < 7; k++) {
            dueAsks("variable " + k, x, k, 64, 1 << k, 1 << k, 1, 1, 1);
        }
        dueAsks("never", x, 7, 0, -1, 0, 0, 0, 0);
        dueAsks("always", x, 8, 128, 0, 0, 0, 1, 1);
    }

    private static void asksOfCountsAndLeasts() {
        NetDesk x = new NetDesk();
        int all = x.gate(1, 0, 1, 0);
        for (int k = 2; k < 7; k++) {
            all = x.gate(1, all, k, 0);
        }
        dueAsks("and of all", x, all, 1, 127, 127, 7, 1, 1);
        int notAll = x.gate(0, all, 0, 0);
        dueAsks("not and of all", x, notAll, 127, 0, 127, 7, 7, 7);
        int six = x.gate(1, 6, 2, 0);
        dueAsks("6 and 2", x, six, 32, 68, 68, 2, 1, 1);
    }

    private static void asksOfDependence() {
        NetDesk x = new NetDesk();
        int odd = x.gate(3, 1, 4, 0);
        Check.due("just one of 1 and 4", x.ask(odd, 2), 18);
        int choice = x.gate(4, 0, 6, 3);
        Check.due("choice of 0, 6, 3", x.ask(choice, 2), 73);
        int gone = x.gate(9, choice, 0, 1);
        Check.due("6 again", x.ask(gone, 2), 64);
    }

    /** The order of the variables counts: pairs side by side need few, pairs apart need many. */
    private static void asksOfDecisions() {
        NetDesk x = new NetDesk();
        int near = x.gate(2, x.gate(1, 0, 1, 0), x.gate(1, 2, 3, 0), 0);
        near = x.gate(2, near, x.gate(1, 4, 5, 0), 0);
        Check.due("pairs side by side", x.ask(near, 3), 6);
        int far = x.gate(2, x.gate(1, 0, 3, 0), x.gate(1, 1, 4, 0), 0);
        far = x.gate(2, far, x.gate(1, 2, 5, 0), 0);
        Check.due("pairs apart", x.ask(far, 3), 14);
        int odd = Desks.oddOfAll(x);
        Check.due("an odd number of all", x.ask(odd, 3), 13);
        Check.due("6 where 0 is, else 5", x.ask(x.gate(4, 0, 6, 5), 3), 3);
        Check.due("6 where 5 is or 0 is", x.ask(x.gate(1, x.gate(2, 5, 0, 0), 6, 0), 3), 3);
    }

    private static void asksOfPrimesAndEssentials() {
        NetDesk x = new NetDesk();
        int choice = x.gate(4, 0, 1, 2);
        Check.due("choice: primes", x.ask(choice, 4), 3);
        Check.due("choice: essentials", x.ask(choice, 5), 2);
        int ring = ringOfThree(x);
        Check.due("ring: primes", x.ask(ring, 4), 6);
        Check.due("ring: essentials", x.ask(ring, 5), 0);
        int odd = Desks.oddOfAll(x);
        Check.due("odd: primes", x.ask(odd, 4), 64);
        Check.due("odd: essentials", x.ask(odd, 5), 64);
    }

    /** The net before it has primes that cover the first assignment, too. */
    private static void asksOfTheFirstAssignment() {
        NetDesk x = new NetDesk();
        int notBoth = x.gate(0, x.gate(1, 0, 1, 0), 0, 0);
        int none = Desks.noneOfAll(x);
        Check.due("not both: essentials", x.ask(notBoth, 5), 2);
        Check.due("none: essentials", x.ask(none, 5), 1);
        dueAsks("none", x, none, 1, 0, 127, 7, 1, 1);
        Check.due("none: prime", x.prime(none, 0), 0);
        Check.due("none: prime", x.prime(none, 1), -1);
        for (int v = 0; v < 7; v++) {
            Check.due("none by " + v, x.shape(none, v), 2);
        }
        NetDesk y = new NetDesk();
        int noneButFirst = y.gate(9, Desks.noneOfAll(y), 0, 0);
        int more = y.gate(2, 1, noneButFirst, 0);
        Check.due("they differ once", y.ask(y.gate(4, 0, more, 1), 3), 8);
    }

    private static void asksOfTheLastNet() {
        NetDesk x = new NetDesk();
        for (int a = 0; a < 7; a++) {
            for (int b = a + 1; b < 7; b++) {
                x.gate(3, a, b, 0);
            }
        }
        x.gate(1, 0, 1, 0);
        Check.due("the last net", x.gate(5, 4, 5, 6), 31);
        dueAsks("the last net", x, 31, 64, 48, 112, 4, 3, 3);
        Check.due("the last net", x.prime(31, 0), code("2222211"));
        Check.due("the last net", x.shape(31, 6), 1);
        Check.due("the last net", x.same(31, 4, 6), true);
        Check.due("the last net", x.holds(31, 127), true);
        Check.due("the last net", x.holds(31, 128), false);
    }

    /** True unless variables 0, 1, 2 are all the same: each assignment lies in two primes. */
    private static int ringOfThree(NetDesk x) {
        int some = x.gate(2, x.gate(2, 0, 1, 0), 2, 0);
        int all = x.gate(1, x.gate(1, 0, 1, 0), 2, 0);
        return x.gate(3, some, all, 0);
    }

    private static void shapes() {
        NetDesk x = new NetDesk();
        int fall = x.gate(0, 6, 0, 0);
        int odd = x.gate(3, 0, 6, 0);
        int choice = x.gate(4, 3, 0, fall);
        for (int v = 0; v < 7; v++) {
            Check.due("never by " + v, x.shape(7, v), 0);
            Check.due("always by " + v, x.shape(8, v), 0);
            Check.due("6 by " + v, x.shape(6, v), v == 6 ? 1 : 0);
            Check.due("not 6 by " + v, x.shape(fall, v), v == 6 ? 2 : 0);
            Check.due("just one by " + v, x.shape(odd, v), v == 0 || v == 6 ? 3 : 0);
        }
        Check.due("choice by 0", x.shape(choice, 0), 1);
        Check.due("choice by 3", x.shape(choice, 3), 3);
        Check.due("choice by 6", x.shape(choice, 6), 2);
        Check.due("choice by 5", x.shape(choice, 5), 0);
    }

    private static void sames() {
        NetDesk x = new NetDesk();
        int majority = x.gate(5, 0, 3, 6);
        int falling = x.gate(1, 1, x.gate(0, 2, 0, 0), 0);
        for (int v = 0; v < 7; v++) {
            Check.due("with itself", x.same(falling, v, v), true);
            for (int w = 0; w < 7; w++) {
                Check.due("always", x.same(8, v, w), true);
                Check.due("never", x.same(7, v, w), true);
                boolean alike = (v % 3 == 0) == (w % 3 == 0);
                Check.due("majority " + v + " " + w, x.same(majority, v, w), alike);
            }
        }
        Check.due("falling 1 2", x.same(falling, 1, 2), false);
        Check.due("falling 2 1", x.same(falling, 2, 1), false);
        Check.due("falling 0 6", x.same(falling, 0, 6), true);
    }

    private static void holdings() {
        NetDesk x = new NetDesk();
        int net = x.gate(1, 0, 6, 0);
        for (int at = 0; at < 128; at++) {
            Check.due("0 and 6 at " + at, x.holds(net, at), at > 64 && at % 2 == 1);
        }
        for (int wrong : Check.allBut(0, 127)) {
            Check.due("never at " + wrong, x.holds(7, wrong), false);
            Check.due("always at " + wrong, x.holds(8, wrong), false);
        }
        for (int wrong : Check.allBut(0, 9)) {
            Check.due("net " + wrong, x.holds(wrong, 127), false);
        }
    }

    private static int code(String digits) {
        int sum = 0;
        for (int k = digits.length() - 1; k >= 0; k--) {
            sum = sum * 3 + digits.charAt(k) - '0';
        }
        return sum;
    }

    private static void primesInOrder() {
        NetDesk x = new NetDesk();
        Check.due("always", x.prime(8, 0), 2186);
        Check.due("always", x.prime(8, 1), -1);
        Check.due("never", x.prime(7, 0), -1);
        Check.due("variable 0", x.prime(0, 0), code("1222222"));
        Check.due("variable 6", x.prime(6, 0), code("2222221"));
        Check.due("not 6", x.prime(x.gate(0, 6, 0, 0), 0), code("2222220"));
        int ring = ringOfThree(x);
        String[] want = {"0122222", "1022222", "0212222", "1202222", "2012222", "2102222"};
        java.util.Arrays.sort(want, (p, q) -> code(p) - code(q));
        for (int k = 0; k < 6; k++) {
            Check.due("ring " + k, x.prime(ring, k), code(want[k]));
        }
        Check.due("ring 6", x.prime(ring, 6), -1);
        Check.due("always again", x.prime(8, 0), 2186);
    }

    private static void primesOfManyVariables() {
        NetDesk x = new NetDesk();
        int odd = Desks.oddOfAll(x);
        int k = 0;
        for (int at = 0; at < 128; at++) {
            if (Integer.bitCount(at) % 2 == 1) {
                StringBuilder digits = new StringBuilder();
                for (int v = 0; v < 7; v++) {
                    digits.append(Check.bit(at, v) ? '1' : '0');
                }
                Check.due("odd " + k, x.prime(odd, k), code(digits.toString()));
                k++;
            }
        }
        Check.due("odd 64", x.prime(odd, 64), -1);
    }
}
