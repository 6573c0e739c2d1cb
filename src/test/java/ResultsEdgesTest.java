/** Promises 26 to 33 at their edges: each test stands under the sentence that it holds. */
public final class ResultsEdgesTest {
    private static final int ONE = 268435456;

    private interface Turning {
        long of(InertialReference r, int[] v, int axis);
    }

    public static void main(String[] args) {
        promise26Parts();
        promise27Parts();
        promise28Largest();
        promise29BeforeTheFirstTick();
        promise30RoundsDown();
        promise30Largest();
        promise31Vectors();
        promise31OutOfRange();
        promise31Axis();
        promise32Vectors();
        promise32OutOfRange();
        promise32Axis();
        promise33NoneToAll();
        promise33DifferentBins();
        Check.end();
    }

    /** Promise 26: "k: 0 to 3", and "0 if k is out of range". */
    private static void promise26Parts() {
        InertialReference r = new InertialReference();
        r.turnEstimate(20, 40, 60);
        for (int k = 0; k <= 3; k++) {
            Check.due("estimate(" + k + ")", r.estimate(k), k == 0 ? ONE : 10 * k);
        }
        for (int k : new int[] {-1, 4, 5, Integer.MIN_VALUE, Integer.MAX_VALUE}) {
            Check.due("estimate(" + k + ")", r.estimate(k), 0);
        }
        Refused.beyond("estimate", 0, 3, 0, InertialReference::estimate);
    }

    /** Promise 27: "k: 0 to 3", and "0 if k is out of range". */
    private static void promise27Parts() {
        InertialReference r = new InertialReference();
        r.turnTruth(20, 40, 60);
        for (int k = 0; k <= 3; k++) {
            Check.due("truth(" + k + ")", r.truth(k), k == 0 ? ONE : 10 * k);
        }
        for (int k : new int[] {-1, 4, 5, Integer.MIN_VALUE, Integer.MAX_VALUE}) {
            Check.due("truth(" + k + ")", r.truth(k), 0);
        }
        Refused.beyond("truth", 0, 3, 0, InertialReference::truth);
    }

    /** Promise 28: "Returns the angle", by sines: it grows up to half a turn, to 2 * ONE, and falls behind it. */
    private static void promise28Largest() {
        InertialReference r = new InertialReference();
        for (int k = 0; k < 210; k++) {
            r.turnEstimate(4000000, 0, 0);
        }
        long half = r.errorAngle();
        Check.holds("nearly half a turn: " + half, half > 2 * 268400000L && half <= 2L * ONE);
        Check.due("is twice the part about x", half, 2 * Math.abs(r.estimate(1)));
        for (int k = 0; k < 100; k++) {
            r.turnEstimate(4000000, 0, 0);
        }
        Check.holds("more than half a turn", r.estimate(0) < 0 && r.errorAngle() < half);
        Check.holds("is twice the part about x, but for rounding",
                Math.abs(r.errorAngle() - 2 * Math.abs(r.estimate(1))) <= 2);
    }

    /** Promise 29: "0 before the first tick", though there is an error angle, and so after reset. */
    private static void promise29BeforeTheFirstTick() {
        InertialReference r = new InertialReference();
        r.turnEstimate(2000, 0, 0);
        Check.due("an error angle before the first tick", r.errorAngle(), 2000);
        Check.due("greatestError before the first tick", r.greatestError(), 0);
        r.run(1);
        Check.due("greatestError after it", r.greatestError(), 2000);
        r.reset();
        r.turnTruth(4000, 0, 0);
        Check.due("greatestError after reset", r.greatestError(), 0);
    }

    /**
     * Promise 30: "the components of (a x b) >> 28", each rounded down. With the truth level, a is (0, 0, -ONE), so that
     * (a x b) >> 28 is (b1, -b0, 0); turned by 2 about x or y, b1 or b0 is 2 or -2.
     */
    private static void promise30RoundsDown() {
        int[][] turns = {{2, 0}, {-2, 0}, {0, 2}, {0, -2}, {2, 2}, {4, 2}, {4, 4}};
        int[] tilts = {2, 2, 2, 2, 2, 4, 5};
        for (int k = 0; k < turns.length; k++) {
            InertialReference r = new InertialReference();
            r.turnEstimate(turns[k][0], turns[k][1], 0);
            Check.due("tilt of " + turns[k][0] + ", " + turns[k][1], r.tiltError(), tilts[k]);
        }
        // Both are turned by 2 about other axes: the tilt's z is 4 >> 28, or the other way round -4 >> 28.
        InertialReference above = new InertialReference();
        above.turnTruth(2, 0, 0);
        above.turnEstimate(0, 2, 0);
        Check.due("the root of 4 + 4 + 0", above.tiltError(), 2);
        InertialReference below = new InertialReference();
        below.turnTruth(0, 2, 0);
        below.turnEstimate(2, 0, 0);
        Check.due("the root of 4 + 4 + 1", below.tiltError(), 3);
    }

    /** Promise 30: "isqrt(x * x + y * y + z * z)", at its greatest: a body on its side against a level one. */
    private static void promise30Largest() {
        InertialReference r = new InertialReference();
        long most = 0;
        for (int k = 0; k < 210; k++) {
            r.turnEstimate(4000000, 0, 0);
            long tilt = r.tiltError();
            Check.holds("a tilt of at most ONE: " + tilt, tilt >= 0 && tilt <= ONE + 4);
            most = Math.max(most, tilt);
        }
        Check.holds("a quarter turn tilts by nearly ONE: " + most, most > 268400000L);
        Check.holds("half a turn tilts by little: " + r.tiltError(), r.tiltError() < 4000000);
    }

    /** Vectors up to the ends of their range, turned by the estimate, for each axis; by the document's matrix. */
    private static void dueVectors(String call, Turning turning, boolean toBody) {
        InertialReference r = new InertialReference();
        r.turnTruth(-4000000, 4000000, 4000000);
        r.turnEstimate(4000000, -4000000, 3000000);
        long[][] m = matrix(r.estimate(0), r.estimate(1), r.estimate(2), r.estimate(3));
        int[][] vectors = {{ONE, 0, 0}, {0, ONE, 0}, {0, 0, ONE}, {-ONE, 0, 0}, {0, -ONE, 0}, {0, 0, -ONE},
            {ONE, ONE, ONE}, {-ONE, -ONE, -ONE}, {ONE, -ONE, ONE}, {1, 1, 1}, {-1, -1, -1}, {0, 0, 0}};
        for (int[] v : vectors) {
            for (int axis = 0; axis <= 2; axis++) {
                long sum = 0;
                for (int k = 0; k <= 2; k++) {
                    sum += (toBody ? m[k][axis] : m[axis][k]) * v[k];
                }
                String asked = call + "(" + v[0] + ", " + v[1] + ", " + v[2] + ", " + axis + ")";
                Check.due(asked, turning.of(r, v, axis), sum >> 28);
            }
        }
    }

    private static long[][] matrix(long w, long x, long y, long z) {
        return new long[][] {
            {ONE - 2 * ((y * y + z * z) >> 28), 2 * ((x * y - w * z) >> 28), 2 * ((x * z + w * y) >> 28)},
            {2 * ((x * y + w * z) >> 28), ONE - 2 * ((x * x + z * z) >> 28), 2 * ((y * z - w * x) >> 28)},
            {2 * ((x * z - w * y) >> 28), 2 * ((y * z + w * x) >> 28), ONE - 2 * ((x * x + y * y) >> 28)},
        };
    }

    /** Each component beyond its range answers 0, for the axis that it would count most on and for the others. */
    private static void dueOutOfRange(String call, Turning turning) {
        for (int axis = 0; axis <= 2; axis++) {
            int asked = axis;
            int v = ONE / 2;
            Refused.beyond(call + ": x", -ONE, ONE, 0, (r, out) -> turning.of(r, new int[] {out, v, v}, asked));
            Refused.beyond(call + ": y", -ONE, ONE, 0, (r, out) -> turning.of(r, new int[] {v, out, v}, asked));
            Refused.beyond(call + ": z", -ONE, ONE, 0, (r, out) -> turning.of(r, new int[] {v, v, out}, asked));
        }
    }

    /** Promise 31: "x: -268435456 to 268435456", and so y and z. */
    private static void promise31Vectors() {
        dueVectors("toNavigation", (r, v, axis) -> r.toNavigation(v[0], v[1], v[2], axis), false);
    }

    /** Promise 31: "0 if a parameter is out of range". */
    private static void promise31OutOfRange() {
        dueOutOfRange("toNavigation", (r, v, axis) -> r.toNavigation(v[0], v[1], v[2], axis));
    }

    /** Promise 31: "axis: 0 to 2", and "0 if a parameter is out of range". */
    private static void promise31Axis() {
        Refused.beyond("toNavigation: axis", 0, 2, 0, (r, axis) -> r.toNavigation(ONE, ONE, ONE, axis));
    }

    /** Promise 32: "x: -268435456 to 268435456", and so y and z. */
    private static void promise32Vectors() {
        dueVectors("toBody", (r, v, axis) -> r.toBody(v[0], v[1], v[2], axis), true);
    }

    /** Promise 32: "0 if a parameter is out of range". */
    private static void promise32OutOfRange() {
        dueOutOfRange("toBody", (r, v, axis) -> r.toBody(v[0], v[1], v[2], axis));
    }

    /** Promise 32: "axis: 0 to 2", and "0 if a parameter is out of range". */
    private static void promise32Axis() {
        Refused.beyond("toBody: axis", 0, 2, 0, (r, axis) -> r.toBody(ONE, ONE, ONE, axis));
    }

    /** Promise 33: "Returns the number of different bins": from none, by each bin's edges, up to all 13. */
    private static void promise33NoneToAll() {
        InertialReference r = new InertialReference();
        Check.due("no bin", r.visitedBins(), 0);
        int bins = 0;
        for (int first = -40; first <= 80; first += 10) {
            bins++;
            r.setTemperature(first);
            r.run(1);
            Check.due("bins with that of " + first, r.visitedBins(), bins);
            r.setTemperature(Math.min(first + 9, 85));
            r.run(1);
            Check.due("and at its end", r.visitedBins(), bins);
        }
        Check.due("all bins", r.visitedBins(), 13);
        r.reset();
        Check.due("after reset", r.visitedBins(), 0);
    }

    /** Promise 33: "different bins": one that is visited again is none more. */
    private static void promise33DifferentBins() {
        InertialReference r = new InertialReference();
        for (int k = 0; k < 20; k++) {
            r.setTemperature(k % 2 == 0 ? -1 : 0);
            r.run(1);
        }
        Check.due("two bins, ten times each", r.visitedBins(), 2);
        r.setTemperature(-11);
        Check.due("setTemperature out of range", r.setTemperature(86), -1000);
        r.run(1);
        Check.due("a refused temperature is no bin", r.visitedBins(), 3);
    }
}
