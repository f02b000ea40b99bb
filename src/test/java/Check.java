import java.util.stream.IntStream;

/** Counts and prints the answers that are not as due; not a test by itself. */
final class Check {
    private static int made = 0;
    private static int wrong = 0;

    private Check() {
    }

    static void due(String call, long got, long want) {
        made++;
        if (got != want) {
            wrong++;
            System.out.println(call + " answered " + got + ", due is " + want);
        }
    }

    static void due(String call, boolean got, boolean want) {
        due(call, got ? 1 : 0, want ? 1 : 0);
    }

    static boolean bit(int number, int k) {
        return (number >> k & 1) == 1;
    }

    /**
     * Numbers just beside these, as far from them as can be, and such as would be among them
     * if bits were lost: a shift counts 32 as 0, and a number times 128 may wrap around.
     */
    static int[] allBut(int least, int greatest) {
        IntStream.Builder wrong = IntStream.builder();
        wrong.add(least - 1).add(greatest + 1).add(Integer.MIN_VALUE).add(Integer.MAX_VALUE);
        for (int lost : new int[] {32, 256, 65536, 1 << 25, 1 << 30}) {
            if (greatest - least < lost) {
                wrong.add(least + lost).add(greatest - lost);
            }
        }
        return wrong.build().toArray();
    }

    static void end() {
        System.out.println(made + " answers, " + wrong + " not as due");
        if (wrong != 0) {
            System.exit(1);
        }
    }
}
