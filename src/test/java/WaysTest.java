/** Promises 15 and 16: check and alike. */
public final class WaysTest {
    private static final int ALL = 65535;

    public static void main(String[] args) {
        oneStep();
        comingToOnSomeAndAllWays();
        stayingOnSomeAndAllWays();
        untilOnSomeAndAllWays();
        setsAreOfSomeInputs();
        inputsThatAreAllFalse();
        longWays();
        alikeAtRest();
        alikeWithInputs();
        alikeAfterSteps();
        alikeOfALongRow();
        Check.end();
    }

    /**
     * A line 0 - 1 - 2 - 3 on registers 3 and 4: with input 0 the machine goes one up (and
     * stays in 3), else it stays. Registers 5 and 6 stay as they are.
     */
    private static NetDesk line() {
        NetDesk x = new NetDesk();
        int up = x.gate(1, 0, 3, 0);
        x.next(4, x.gate(2, 4, up, 0));
        int odd = x.gate(3, 0, 3, 0);
        int top = x.gate(1, 3, 4, 0);
        x.next(3, x.gate(2, odd, top, 0));
        x.undo(9);
        return x;
    }

    private static int onLine(int... places) {
        int sum = 0;
        for (int place : places) {
            sum |= 0x1111 << place;
        }
        return sum;
    }

    private static void oneStep() {
        NetDesk x = line();
        int top = x.gate(1, 3, 4, 0);
        Check.due("some STEP into 3", x.check(0, top, 0), onLine(2, 3));
        Check.due("all STEPS into 3", x.check(1, top, 0), onLine(3));
        Check.due("some STEP into 1, 3", x.check(0, 3, 0), onLine(0, 1, 2, 3));
        Check.due("all STEPS into 1, 3", x.check(1, 3, 0), onLine(3));
        Check.due("some STEP into 2, 3", x.check(0, 4, 0), onLine(1, 2, 3));
        Check.due("all STEPS into 2, 3", x.check(1, 4, 0), onLine(2, 3));
        for (int kind = 0; kind < 2; kind++) {
            Check.due("into none", x.check(kind, 7, 0), 0);
            Check.due("into all", x.check(kind, 8, 0), ALL);
        }
    }

    private static void comingToOnSomeAndAllWays() {
        NetDesk x = line();
        int top = x.gate(1, 3, 4, 0);
        Check.due("some way to 3", x.check(2, top, 0), ALL);
        Check.due("all ways to 3", x.check(3, top, 0), onLine(3));
        int bottom = x.gate(0, x.gate(2, 3, 4, 0), 0, 0);
        Check.due("some way to 0", x.check(2, bottom, 0), onLine(0));
        Check.due("all ways to 0", x.check(3, bottom, 0), onLine(0));
        Check.due("some way to none", x.check(2, 7, 0), 0);
        Check.due("all ways to all", x.check(3, 8, 0), ALL);
        x.next(3, 8);
        Check.due("all ways to 1 or 3", x.check(3, 3, 0), ALL);
        Check.due("some way to 1 or 3", x.check(2, 3, 0), ALL);
    }

    private static void stayingOnSomeAndAllWays() {
        NetDesk x = line();
        Check.due("some way stays in 1, 3", x.check(4, 3, 0), onLine(1, 3));
        Check.due("all ways stay in 1, 3", x.check(5, 3, 0), onLine(3));
        Check.due("some way stays in 2, 3", x.check(4, 4, 0), onLine(2, 3));
        Check.due("all ways stay in 2, 3", x.check(5, 4, 0), onLine(2, 3));
        int low = x.gate(0, 4, 0, 0);
        Check.due("some way stays in 0, 1", x.check(4, low, 0), onLine(0, 1));
        Check.due("all ways stay in 0, 1", x.check(5, low, 0), 0);
        Check.due("stays in all", x.check(5, 8, 0), ALL);
        Check.due("stays in none", x.check(4, 7, 0), 0);
        x.next(4, 8);
        Check.due("no way stays in 0, 1", x.check(4, low, 0), 0);
    }

    private static void untilOnSomeAndAllWays() {
        NetDesk x = line();
        int low = x.gate(0, 4, 0, 0);
        int top = x.gate(1, 3, 4, 0);
        int two = x.gate(3, 4, top, 0);
        Check.due("some way, in 0, 1 until 2", x.check(6, low, two), onLine(0, 1, 2));
        Check.due("all ways, in 0, 1 until 2", x.check(7, low, two), onLine(2));
        Check.due("some way, in 1, 3 until 2", x.check(6, 3, two), onLine(1, 2));
        Check.due("some way, in 0, 1 until 3", x.check(6, low, top), onLine(3));
        Check.due("some way, in all until 3", x.check(6, 8, top), ALL);
        Check.due("all ways, in all until 3", x.check(7, 8, top), onLine(3));
        x.next(3, x.gate(0, 3, 0, 0));
        Check.due("all ways, in 0 or 2 until 1 or 3", x.check(7, x.gate(0, 3, 0, 0), 3), ALL);
        Check.due("some way, in 0 or 2 until never", x.check(6, x.gate(0, 3, 0, 0), 7), 0);
    }

    private static void setsAreOfSomeInputs() {
        NetDesk x = line();
        int some = x.gate(1, x.gate(1, 0, 1, 0), x.gate(1, 2, 4, 0), 0);
        Check.due("some STEP", x.check(0, some, 0), onLine(1, 2, 3));
        Check.due("all STEPS", x.check(1, some, 0), onLine(2, 3));
        Check.due("staying", x.check(5, some, 0), onLine(2, 3));
        Check.due("until", x.check(6, 0, some), ALL);
        Check.due("an input alone", x.check(5, 2, 0), ALL);
    }

    /** Register 6 changes, and the nets are true or tell states apart, with inputs 0 alone. */
    private static void inputsThatAreAllFalse() {
        NetDesk x = new NetDesk();
        int none = x.gate(0, x.gate(2, x.gate(2, 0, 1, 0), 2, 0), 0, 0);
        int noneIn = x.gate(1, none, 6, 0);
        Check.due("the SET", x.check(5, noneIn, 0), 0xff00);
        Check.due("alike now", x.alike(noneIn, -1), 2);
        x.next(6, x.gate(2, 6, x.gate(1, none, 3, 0), 0));
        Check.due("some STEP", x.check(0, 6, 0), 0xffaa);
        Check.due("all STEPS", x.check(1, 6, 0), 0xff00);
        Check.due("alike after a STEP", x.alike(6, -1), 3);
        Check.due("alike after a STEP", x.alike(6, 7), 1);
        x.reset(5);
        Check.due("reach", x.reach(noneIn), 1);
        Check.due("witness", x.witness(0), 0);
        Check.due("witness", x.witness(1), 0);
        Check.due("states", x.states(2), (1 << 5) + (1 << 13));
    }

    /** The counter needs the longest ways that there are. */
    private static void longWays() {
        NetDesk x = new NetDesk();
        Desks.makeCounter(x);
        int last = x.gate(1, x.gate(1, 3, 4, 0), x.gate(1, 5, 6, 0), 0);
        int notLast = x.gate(0, last, 0, 0);
        Check.due("some way to 15", x.check(2, last, 0), ALL);
        Check.due("all ways to 15", x.check(3, last, 0), ALL);
        Check.due("some way never to 15", x.check(4, notLast, 0), 0);
        Check.due("all ways never to 15", x.check(5, notLast, 0), 0);
        Check.due("some way until 15", x.check(6, notLast, last), ALL);
        Check.due("all ways until 15", x.check(7, notLast, last), ALL);
        Check.due("all ways from 8 on until 15", x.check(7, 6, last), 0xff00);
    }

    private static void alikeAtRest() {
        NetDesk x = new NetDesk();
        for (int register = 3; register < 7; register++) {
            Check.due("how many", x.alike(register, -1), 2);
            for (int s = 0; s < 16; s++) {
                int value = 1 << register - 3;
                Check.due("register " + register, x.alike(register, s), s & value);
            }
        }
        Check.due("never", x.alike(7, -1), 1);
        Check.due("always", x.alike(8, 15), 0);
        Check.due("an input", x.alike(2, -1), 1);
    }

    /** Both nets are true in all states for some inputs, but not for the same ones. */
    private static void alikeWithInputs() {
        NetDesk x = new NetDesk();
        int choice = x.gate(4, 5, 1, 2);
        Check.due("how many", x.alike(choice, -1), 2);
        Check.due("3", x.alike(choice, 3), 0);
        Check.due("15", x.alike(choice, 15), 4);
        int hidden = x.gate(1, x.gate(1, 0, 1, 0), x.gate(1, 2, 6, 0), 0);
        Check.due("how many", x.alike(hidden, -1), 2);
        Check.due("7", x.alike(hidden, 7), 0);
        Check.due("8", x.alike(hidden, 8), 8);
    }

    private static void alikeAfterSteps() {
        NetDesk x = new NetDesk();
        x.next(6, x.gate(1, 4, x.gate(1, 0, 1, 0), 0));
        Check.due("6 takes 4 with inputs 0 and 1", x.alike(6, -1), 4);
        for (int s = 0; s < 16; s++) {
            Check.due("state " + s, x.alike(6, s), s & 10);
        }
        x.next(6, 4);
        x.next(4, 7);
        Check.due("6 takes 4 once", x.alike(6, -1), 4);
        x.next(6, 7);
        Check.due("6 takes none", x.alike(6, -1), 2);
        Check.due("6 takes none", x.alike(6, 14), 8);
    }

    private static void alikeOfALongRow() {
        NetDesk x = new NetDesk();
        Desks.makeCounter(x);
        int last = x.gate(1, x.gate(1, 3, 4, 0), x.gate(1, 5, 6, 0), 0);
        Check.due("how many", x.alike(last, -1), 16);
        for (int s = 0; s < 16; s++) {
            Check.due("state " + s, x.alike(last, s), s);
            Check.due("of register 5, state " + s, x.alike(5, s), s % 8);
        }
        Check.due("of register 5", x.alike(5, -1), 8);
    }
}
