import java.util.function.IntUnaryOperator;

/** Counts the answers that are not due, and tells them. */
final class Check {
    private static int wrong = 0;
    private static int asked = 0;

    private Check() {
    }

    static void due(String call, long got, long want) {
        asked++;
        if (got != want) {
            wrong++;
            System.out.println(call + " answered " + got + ", due is " + want);
        }
    }

    static void holds(String what, boolean answer) {
        asked++;
        if (!answer) {
            wrong++;
            System.out.println(what + " does not hold");
        }
    }

    /** A parameter's range: its two ends are taken, what lies just and far beyond them is refused. */
    static void range(String call, int low, int high, long refusal, IntUnaryOperator answer) {
        for (int value : new int[] {low, high}) {
            int got = answer.applyAsInt(value);
            holds(call + " taking " + value + " (it answered " + got + ")", got != refusal);
        }
        for (int value : new int[] {low - 1, high + 1, Integer.MIN_VALUE, Integer.MAX_VALUE}) {
            due(call + " of " + value, answer.applyAsInt(value), refusal);
        }
    }

    static void end() {
        System.out.println(asked + " answers looked at, " + wrong + " wrong");
        if (wrong != 0) {
            System.exit(1);
        }
    }
}
