/** All promises: runs of mixed calls, and runs on deep machines, all against the model. */
public final class ModelTest {
    private static final int RUNS = 100;
    private static final int CALLS = 512;

    private static long seed = 1;

    public static void main(String[] args) {
        for (int run = 0; run < RUNS; run++) {
            seed = run + 1;
            mixedRun(run);
            deepRun(run);
        }
        Check.end();
    }

    /** The same numbers every time, so that a run that fails fails again. */
    private static int below(int bound) {
        seed = seed * 6364136223846793005L + 1442695040888963407L;
        return (int) ((seed >>> 33) % bound);
    }

    /** Mostly from least to greatest, now and then beside it or far off. */
    private static int about(int least, int greatest) {
        int chance = below(40);
        if (chance == 0) {
            int[] wrong = Check.allBut(least, greatest);
            return wrong[below(wrong.length)];
        }
        return least + below(greatest - least + 1);
    }

    private static void mixedRun(int run) {
        NetDesk desk = new NetDesk();
        Model model = new Model();
        int nets = 9;
        for (int k = 0; k < CALLS; k++) {
            String call = "run " + run + ", call " + k + ": ";
            int method = below(20);
            if (method < 6) {
                nets = Math.max(nets, gate(call, desk, model, nets) + 1);
            } else if (method == 6) {
                int n = below(3) == 0 ? about(9, nets) : -1;
                int gone = model.undo(n);
                Check.due(call + "undo " + n, desk.undo(n), gone);
                nets -= Math.max(gone, 0);
            } else if (method < 13) {
                machine(call, method, desk, model, nets);
            } else {
                question(call, method, desk, model, nets);
            }
        }
    }

    private static int gate(String call, NetDesk desk, Model model, int nets) {
        int kind = about(0, 9);
        int a = about(0, nets - 1);
        int b = about(0, kind > 5 ? 6 : nets - 1);
        int c = about(0, kind == 9 ? 1 : nets - 1);
        int want = model.gate(kind, a, b, c);
        String name = "gate " + kind + " " + a + " " + b + " " + c;
        Check.due(call + name, desk.gate(kind, a, b, c), want);
        return want;
    }

    private static void machine(String call, int method, NetDesk desk, Model model, int nets) {
        int a = about(-1, nets - 1);
        int inputs = about(-1, 7);
        int register = about(3, 6);
        int state = about(0, 15);
        int k = about(0, 5);
        int what = about(0, 2);
        switch (method) {
            case 7 -> Check.due(call + "next " + register + " " + a,
                    desk.next(register, a), model.next(register, a));
            case 8 -> Check.due(call + "reset " + state, desk.reset(state), model.reset(state));
            case 9 -> Check.due(call + "step " + inputs, desk.step(inputs), model.step(inputs));
            case 10 -> Check.due(call + "reach " + a, desk.reach(a), model.reach(a));
            case 11 -> Check.due(call + "witness " + k, desk.witness(k), model.witness(k));
            default -> Check.due(call + "states " + what, desk.states(what), model.states(what));
        }
    }

    private static void question(String call, int method, NetDesk desk, Model model, int nets) {
        int a = about(0, nets - 1);
        int b = about(0, nets - 1);
        int v = about(0, 6);
        int w = about(0, 6);
        int x = about(0, 127);
        int what = about(0, 5);
        int k = about(0, 9);
        int kind = about(0, 7);
        int state = about(-1, 15);
        String net = " " + a + " ";
        switch (method) {
            case 13 -> Check.due(call + "ask" + net + what,
                    desk.ask(a, what), model.ask(a, what));
            case 14 -> Check.due(call + "shape" + net + v, desk.shape(a, v), model.shape(a, v));
            case 15 -> Check.due(call + "same" + net + v + " " + w,
                    desk.same(a, v, w), model.same(a, v, w));
            case 16 -> Check.due(call + "holds" + net + x, desk.holds(a, x), model.holds(a, x));
            case 17 -> Check.due(call + "prime" + net + k, desk.prime(a, k), model.prime(a, k));
            case 18 -> Check.due(call + "check " + kind + net + b,
                    desk.check(kind, a, b), model.check(kind, a, b));
            default -> Check.due(call + "alike" + net + state,
                    desk.alike(a, state), model.alike(a, state));
        }
    }

    /**
     * With one input the machine goes on along a row of all states, without it stays or goes
     * back: such machines need more STEPS, and tell more states apart, than mixed gates make.
     */
    private static void deepRun(int run) {
        NetDesk desk = new NetDesk();
        Model model = new Model();
        String call = "deep run " + run + ": ";
        int input = below(3);
        int[] after = deepMachine();
        for (int register = 3; register < 7; register++) {
            boolean[] values = new boolean[32];
            for (int k = 0; k < 32; k++) {
                values[k] = Check.bit(after[k], register - 3);
            }
            int net = build(call, desk, model, input, values);
            Check.due(call + "next", desk.next(register, net), model.next(register, net));
            Check.due(call + "undo", desk.undo(9), model.undo(9));
        }
        int start = below(16);
        Check.due(call + "reset", desk.reset(start), model.reset(start));
        questionsOnDeep(call, desk, model);
    }

    /** The state after state s stands at s without the input, and at 16 + s with it. */
    private static int[] deepMachine() {
        int[] row = new int[16];
        for (int k = 0; k < 16; k++) {
            int other = below(k + 1);
            row[k] = row[other];
            row[other] = k;
        }
        int[] after = new int[32];
        for (int k = 0; k < 16; k++) {
            after[row[k]] = row[below(3) == 0 ? below(k + 1) : k];
            after[16 + row[k]] = row[k < 15 ? k + 1 : below(16)];
        }
        return after;
    }

    /** The net of these values, the state counting up, without the input and then with it. */
    private static int build(String call, NetDesk desk, Model model, int input,
            boolean[] values) {
        int[] parts = new int[32];
        for (int k = 0; k < 32; k++) {
            parts[k] = values[k] ? 8 : 7;
        }
        for (int v = 3, length = 16; length >= 1; v++, length /= 2) {
            int chooser = v < 7 ? v : input;
            for (int k = 0; k < length; k++) {
                int yes = parts[2 * k + 1];
                int no = parts[2 * k];
                int want = model.gate(4, chooser, yes, no);
                Check.due(call + "gate", desk.gate(4, chooser, yes, no), want);
                parts[k] = want;
            }
        }
        return parts[0];
    }

    private static void questionsOnDeep(String call, NetDesk desk, Model model) {
        boolean[] goal = new boolean[32];
        goal[below(32)] = true;
        int a = build(call, desk, model, below(3), goal);
        for (int k = 0; k < 16; k++) {
            goal[below(32)] = true;
        }
        int b = build(call, desk, model, below(3), goal);
        Check.due(call + "reach", desk.reach(a), model.reach(a));
        for (int k = -1; k < 17; k++) {
            Check.due(call + "witness " + k, desk.witness(k), model.witness(k));
            Check.due(call + "alike " + k, desk.alike(a, k), model.alike(a, k));
        }
        for (int kind = 0; kind < 8; kind++) {
            Check.due(call + "check " + kind, desk.check(kind, a, b), model.check(kind, a, b));
            Check.due(call + "check " + kind, desk.check(kind, b, a), model.check(kind, b, a));
        }
        for (int what = 0; what < 3; what++) {
            Check.due(call + "states " + what, desk.states(what), model.states(what));
        }
    }
}
