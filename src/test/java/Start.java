/** The desks that the tests of edges start from, with how many nets each has; not a test. */
enum Start {
    NEW(9), BUSY(12), FULL(32);

    final int nets;

    Start(int nets) {
        this.nets = nets;
    }

    NetDesk make() {
        return switch (this) {
            case NEW -> new NetDesk();
            case BUSY -> busy();
            case FULL -> full();
        };
    }

    /**
     * Nothing in it is as it was at first, net 12 has been undone, and the RESET state, the
     * state of the machine and the row of the witness are 4, 11 and 1, 3, 5.
     */
    private static NetDesk busy() {
        NetDesk x = new NetDesk();
        x.gate(1, 0, 1, 0);
        x.gate(1, 3, 9, 0);
        x.gate(1, 2, 4, 0);
        x.gate(3, 5, 6, 0);
        x.next(3, 0);
        x.next(4, 10);
        x.next(5, 11);
        x.next(6, 12);
        x.undo(12);
        x.reset(4);
        x.step(1);
        x.step(3);
        x.step(-1);
        x.step(1);
        x.step(3);
        x.reach(x.gate(1, 0, 11, 0));
        x.undo(12);
        return x;
    }

    /**
     * Nets 9 to 15 are not 0 to 6, 16 at least two of 0, 1, 2, 17 to 20 are 0 and 3 to 6, 21 to
     * 24 are 0 or 3 to 6, 25 to 30 just one of 3 to 6, 31 is 4 where 3 is true, else 5.
     */
    private static NetDesk full() {
        NetDesk x = new NetDesk();
        for (int v = 0; v < 7; v++) {
            x.gate(0, v, 0, 0);
        }
        x.gate(5, 0, 1, 2);
        for (int kind = 1; kind < 3; kind++) {
            for (int v = 3; v < 7; v++) {
                x.gate(kind, 0, v, 0);
            }
        }
        for (int v = 3; v < 7; v++) {
            for (int w = v + 1; w < 7; w++) {
                x.gate(3, v, w, 0);
            }
        }
        x.gate(4, 3, 4, 5);
        return x;
    }
}
