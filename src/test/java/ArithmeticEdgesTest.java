import java.math.BigInteger;

/** The document's section ARITHMETIC at its edges: each test stands under the sentence that it holds. */
public final class ArithmeticEdgesTest {
    private static final int ONE = 268435456;

    public static void main(String[] args) {
        halvesRoundDown();
        productsRoundDown();
        productsAreShiftedAfterTheSum();
        matrixIsShiftedBeforeItIsDoubled();
        toNavigationRoundsDown();
        toBodyRoundsDown();
        cosineLosesHalfOfN();
        sineLosesASixthOfN();
        lengthsBelowOneGrow();
        lengthsAboveOneShrink();
        lengthsJustBelowAStep();
        normalizedPartsRoundDown();
        rootsAreTheGreatestBelow();
        rootOfNothing();
        rootsOfGreatSums();
        longsAreSufficient();
        Check.end();
    }

    private static InertialReference estimateTurned(int x, int y, int z) {
        InertialReference r = new InertialReference();
        r.turnEstimate(x, y, z);
        return r;
    }

    /** "'a >> n' is the arithmetic shift (rounding down)", at "h the vector with the components v >> 1". */
    private static void halvesRoundDown() {
        int[] turns = {-4, -3, -2, -1, 0, 1, 2, 3};
        int[] halves = {-2, -2, -1, -1, 0, 0, 1, 1};
        for (int k = 0; k < turns.length; k++) {
            Check.due("half of " + turns[k] + " about x", estimateTurned(turns[k], 0, 0).estimate(1), halves[k]);
            Check.due("half of " + turns[k] + " about y", estimateTurned(0, turns[k], 0).estimate(2), halves[k]);
            Check.due("half of " + turns[k] + " about z", estimateTurned(0, 0, turns[k]).estimate(3), halves[k]);
        }
    }

    /** "each shifted by >> 28": part 3 of (ONE, 1, 0, 0) and (ONE, 0, -1, 0) is -1 >> 28, and so round the axes. */
    private static void productsRoundDown() {
        InertialReference below = estimateTurned(2, 0, 0);
        below.turnEstimate(0, -2, 0);
        Check.due("-1 >> 28 about z", below.estimate(3), -1);
        InertialReference above = estimateTurned(2, 0, 0);
        above.turnEstimate(0, 2, 0);
        Check.due("1 >> 28 about z", above.estimate(3), 0);
        InertialReference x = estimateTurned(0, 2, 0);
        x.turnEstimate(0, 0, -2);
        Check.due("-1 >> 28 about x", x.estimate(1), -1);
        InertialReference y = estimateTurned(0, 0, 2);
        y.turnEstimate(-2, 0, 0);
        Check.due("-1 >> 28 about y", y.estimate(2), -1);
        InertialReference back = estimateTurned(0, 2, 0);
        back.turnEstimate(2, 0, 0);
        Check.due("-1 >> 28 about z, the other way round", back.estimate(3), -1);
    }

    /** "each shifted by >> 28 after the sum has been formed": two terms of 1.7 are 3 together, and 2 apart. */
    private static void productsAreShiftedAfterTheSum() {
        InertialReference r = estimateTurned(42724, -42724, 0);
        r.turnEstimate(42724, 42724, 0);
        Check.due("two terms of 1.7", r.estimate(3), 3);
    }

    /** "r00 = ONE - 2 * ((y * y + z * z) >> 28)": 2 * (1.7 >> 0) is 2, where 3.4 would be 3. */
    private static void matrixIsShiftedBeforeItIsDoubled() {
        InertialReference z = estimateTurned(0, 0, 42724);
        Check.due("z", z.estimate(3), 21361);
        Check.due("r00", z.toNavigation(ONE, 0, 0, 0), ONE - 2);
        Check.due("r11", z.toNavigation(0, ONE, 0, 1), ONE - 2);
        Check.due("r22", z.toNavigation(0, 0, ONE, 2), ONE);
        InertialReference x = estimateTurned(42724, 0, 0);
        Check.due("r00 of a turn about x", x.toNavigation(ONE, 0, 0, 0), ONE);
        Check.due("r22 of a turn about x", x.toNavigation(0, 0, ONE, 2), ONE - 2);
        InertialReference y = estimateTurned(0, 42724, 0);
        Check.due("r11 of a turn about y", y.toNavigation(0, ONE, 0, 1), ONE);
    }

    /** "component i of the navigation vector is (..) >> 28": r10 is -2 and r01 is 2 for (ONE, 0, 0, -1). */
    private static void toNavigationRoundsDown() {
        InertialReference r = estimateTurned(0, 0, -1);
        Check.due("r10 * ONE", r.toNavigation(ONE, 0, 0, 1), -2);
        Check.due("r01 * ONE", r.toNavigation(0, ONE, 0, 0), 2);
        Check.due("-2 >> 28", r.toNavigation(1, 0, 0, 1), -1);
        Check.due("2 >> 28", r.toNavigation(-1, 0, 0, 1), 0);
    }

    /** "component j of the body vector is (..) >> 28", by the same matrix the other way round. */
    private static void toBodyRoundsDown() {
        InertialReference r = estimateTurned(0, 0, -1);
        Check.due("r01 * ONE", r.toBody(ONE, 0, 0, 1), 2);
        Check.due("r10 * ONE", r.toBody(0, ONE, 0, 0), -2);
        Check.due("-2 >> 28", r.toBody(0, 1, 0, 0), -1);
        Check.due("2 >> 28", r.toBody(0, -1, 0, 0), 0);
    }

    /**
     * "c = ONE - (n >> 1)": n is 1 for halves from 16384 to 23170, 2 from 23171, and 3 up to 32767. Where c is too great
     * for the half, the length is above ONE, and both parts lose 1.
     */
    private static void cosineLosesHalfOfN() {
        int[] halves = {16384, 23170, 23171, 32767};
        int[] scalars = {ONE - 1, ONE - 1, ONE - 1, ONE - 2};
        int[] vectors = {16383, 23169, 23171, 32766};
        for (int k = 0; k < halves.length; k++) {
            InertialReference r = estimateTurned(2 * halves[k], 0, 0);
            Check.due("estimate(0) of a half of " + halves[k], r.estimate(0), scalars[k]);
            Check.due("estimate(1) of a half of " + halves[k], r.estimate(1), vectors[k]);
        }
    }

    /** "s = ONE - n / 6": n is 5 at a half of 40132, and 6 at one of 40133. */
    private static void sineLosesASixthOfN() {
        InertialReference five = estimateTurned(2 * 40132, 0, 0);
        Check.due("estimate(0) of n = 5", five.estimate(0), ONE - 3);
        Check.due("estimate(1) of n = 5", five.estimate(1), 40131);
        InertialReference six = estimateTurned(2 * 40133, 0, 0);
        Check.due("estimate(0) of n = 6", six.estimate(0), ONE - 3);
        Check.due("estimate(1) of n = 6", six.estimate(1), 40132);
        InertialReference minus = estimateTurned(-2 * 40133, 0, 0);
        Check.due("estimate(1) of n = 6 the other way", minus.estimate(1), -40133);
    }

    /** "f = ONE + ((ONE - m) >> 1)" for an m below ONE: a turn of 4000000 leaves its length short. */
    private static void lengthsBelowOneGrow() {
        InertialReference r = estimateTurned(4000000, 4000000, 4000000);
        long[] due = Model.turnedParts(new long[] {ONE, 0, 0, 0}, 4000000, 4000000, 4000000, true);
        long squares = 0;
        for (int k = 0; k < 4; k++) {
            Check.due("estimate(" + k + ") of a long turn", r.estimate(k), due[k]);
            squares += r.estimate(k) * r.estimate(k);
        }
        Check.holds("its length is ONE but for rounding", Math.abs((squares >> 28) - ONE) <= 4);
    }

    /** "f = ONE + ((ONE - m) >> 1)" for an m above ONE: here m is ONE + 1, and -1 >> 1 is -1, not 0. */
    private static void lengthsAboveOneShrink() {
        Check.due("21362 * (ONE - 1) >> 28", estimateTurned(42724, 0, 0).estimate(1), 21361);
    }

    /**
     * "let m be the sum of the squares of its components, shifted by >> 28": the squares of these halves make
     * 3 * 2^28 - 2, and that of ONE - 1 with them 2^56 + 2^28 - 1, which is 1 less than an m of ONE + 1.
     */
    private static void lengthsJustBelowAStep() {
        Parts.dueEstimate("with an m of just ONE", estimateTurned(2 * 28377, 2 * 206, -2 * 99),
                new long[] {ONE - 1, 28377, 206, -99});
        Parts.dueEstimate("with an m of ONE + 1", estimateTurned(2 * 28377, 2 * 206, -2 * 100),
                new long[] {ONE - 2, 28376, 205, -100});
    }

    /** "each component k becomes (k * f) >> 28", rounded down where k is negative too. */
    private static void normalizedPartsRoundDown() {
        InertialReference r = estimateTurned(42724, -42724, 0);
        Check.due("the part above 0", r.estimate(1), 21361);
        Check.due("the part below 0", r.estimate(2), -21362);
    }

    /** "isqrt(a) is the greatest integer whose square is at most a": at a square, and just beside it. */
    private static void rootsAreTheGreatestBelow() {
        int[][] parts = {{1, 0, 0}, {1, 1, 0}, {1, 1, 1}, {2, 0, 0}, {2, 2, 0}, {3, 0, 0}, {2, 2, 1}, {3, 1, 0},
            {3, 2, 1}, {3, 2, 2}, {4, 0, 0}, {4, 1, 0}};
        int[] roots = {1, 1, 1, 2, 2, 3, 3, 3, 3, 4, 4, 4};
        for (int k = 0; k < parts.length; k++) {
            int[] p = parts[k];
            InertialReference r = estimateTurned(2 * p[0], 2 * p[1], 2 * p[2]);
            Check.due("errorAngle of " + p[0] + ", " + p[1] + ", " + p[2], r.errorAngle(), 2 * roots[k]);
        }
    }

    /** "isqrt(a)" of 0. */
    private static void rootOfNothing() {
        Check.due("errorAngle of the same attitude", new InertialReference().errorAngle(), 0);
        Check.due("tiltError of the same attitude", new InertialReference().tiltError(), 0);
    }

    /** "isqrt(a)" up to the greatest sums, which a half turn leaves: some 2^56. */
    private static void rootsOfGreatSums() {
        InertialReference r = new InertialReference();
        for (int k = 1; k <= 210; k++) {
            r.turnEstimate(4000000, 300 * k, -20 * k);
            if (k % 21 == 0) {
                BigInteger squares = BigInteger.ZERO;
                for (int part = 1; part <= 3; part++) {
                    squares = squares.add(BigInteger.valueOf(r.estimate(part)).pow(2));
                }
                Check.due("errorAngle after " + k + " turns", r.errorAngle(), 2 * squares.sqrt().longValueExact());
            }
        }
        Check.holds("half a turn", r.errorAngle() > 2 * 267000000L);
    }

    /** "longs are sufficient for all intermediate results": every parameter at an end of its range, by every method. */
    private static void longsAreSufficient() {
        for (int method = 0; method <= 2; method++) {
            for (int sign = -1; sign <= 1; sign += 2) {
                for (int earth : new int[] {1, 65536}) {
                    atTheEnds(method, sign, earth);
                }
            }
        }
    }

    private static void atTheEnds(int method, int sign, int earth) {
        Beside both = new Beside("at the ends by method " + method + ", sign " + sign + ", earth " + earth);
        for (int axis = 0; axis < 3; axis++) {
            int way = axis == 1 ? -sign : sign;
            both.call("setGyro", axis, way * 100000, way * 10000, 10000, way * 1000);
            both.call("setAccelerometer", axis, way * 10000000);
            both.call("setCompensation", axis, 8, -way * 1000000);
        }
        both.call("setTemperature", 85);
        both.call("setEarthRate", earth, -sign * earth);
        both.call("setMethod", method);
        both.call("setLevelling", 1);
        both.call("setHeading", 1);
        both.call("startCalibration", 20);
        both.call("addSegment", 10, sign * 4000000, -4000000, 4000000);
        // What the errors and the table add to such a rate is nearly taken away by it, so that heading works too.
        both.call("addSegment", 10, -sign * 1200000, sign * 1200000, -sign * 1200000);
        for (int tick = 1; tick <= 40; tick++) {
            both.call("run", 1);
            for (int k = 0; k <= 3; k++) {
                both.call("estimate", k);
            }
            both.call("biasEstimate", tick % 3);
            both.call("tiltError");
            both.call("greatestError");
        }
    }
}
