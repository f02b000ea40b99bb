import java.util.ArrayList;
import java.util.EnumMap;
import java.util.List;
import java.util.Map;

/**
 * Whether a call changes what later calls answer; not a test by itself. It asks for all that
 * can be told of a desk, on many desks made alike, as the calls on each are limited.
 */
final class Later {
    interface Call {
        int on(NetDesk x);
    }

    interface TrueOrFalse {
        boolean on(NetDesk x);
    }

    private static final int NETS_AT_ONCE = 3;
    private static final int PARTS = 13;
    private static final Map<Start, List<List<Integer>>> UNTOUCHED = new EnumMap<>(Start.class);

    private Later() {
    }

    /** The call gets the answer that is due, and all later ones get what they got without it. */
    static void dueNoChange(Start start, String call, int want, Call made) {
        List<List<Integer>> untouched =
                UNTOUCHED.computeIfAbsent(start, s -> answers(s, x -> 0, null, 0));
        List<List<Integer>> after = answers(start, made, call, want);
        for (int part = 0; part < PARTS; part++) {
            boolean equal = after.get(part).equals(untouched.get(part));
            Check.due("on a " + start + " desk " + call + " changes part " + part, !equal, false);
        }
    }

    static void dueFalseAndNoChange(Start start, String call, TrueOrFalse made) {
        dueNoChange(start, call, 0, x -> made.on(x) ? 1 : 0);
    }

    private static List<List<Integer>> answers(Start start, Call made, String call, int want) {
        List<List<Integer>> parts = new ArrayList<>();
        for (int part = 0; part < PARTS; part++) {
            NetDesk x = start.make();
            int got = made.on(x);
            if (part == 0 && call != null) {
                Check.due("on a " + start + " desk " + call, got, want);
            }
            parts.add(part == 0 ? rowAndStates(x) : part == 1 ? nexts(x) : nets(x, part - 2));
        }
        return parts;
    }

    /** The witness, the state of the machine, the RESET state and the number of nets. */
    private static List<Integer> rowAndStates(NetDesk x) {
        List<Integer> answers = new ArrayList<>();
        for (int k = -1; k <= 16; k++) {
            answers.add(x.witness(k));
        }
        for (int register = 3; register < 7; register++) {
            x.next(register, -1);
        }
        answers.add(x.step(0));
        answers.add(x.step(-1));
        answers.add(x.undo(9));
        return answers;
    }

    private static List<Integer> nexts(NetDesk x) {
        List<Integer> answers = new ArrayList<>();
        for (int state = 0; state < 16; state++) {
            x.reset(state);
            for (int inputs = 0; inputs < 8; inputs++) {
                x.step(-1);
                answers.add(x.step(inputs));
            }
        }
        return answers;
    }

    private static List<Integer> nets(NetDesk x, int part) {
        List<Integer> answers = new ArrayList<>();
        for (int a = NETS_AT_ONCE * part; a < NETS_AT_ONCE * (part + 1); a++) {
            answers.add(x.ask(a, 0));
            for (int at = 0; at < 128; at++) {
                answers.add(x.holds(a, at) ? 1 : 0);
            }
        }
        return answers;
    }
}
