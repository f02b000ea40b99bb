/** Nets and machines that several tests start from; not a test by itself. */
final class Desks {
    private Desks() {
    }

    /** The net that is true just where all variables are false. */
    static int noneOfAll(NetDesk x) {
        int some = 0;
        for (int v = 1; v < 7; v++) {
            some = x.gate(2, some, v, 0);
        }
        return x.gate(0, some, 0, 0);
    }

    /** The net that is true where an odd number of the variables is. */
    static int oddOfAll(NetDesk x) {
        int odd = 0;
        for (int v = 1; v < 7; v++) {
            odd = x.gate(3, odd, v, 0);
        }
        return odd;
    }

    /** The registers become a number that grows by 1 with each STEP, and 0 again after 15. */
    static void makeCounter(NetDesk x) {
        int carry = 8;
        for (int k = 3; k < 7; k++) {
            int sum = x.gate(3, k, carry, 0);
            carry = x.gate(1, k, carry, 0);
            x.next(k, sum);
        }
        x.undo(9);
    }
}
