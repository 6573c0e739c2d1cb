/** The document's section STATE, and steps 1 to 6 of A TICK, at their edges: each test stands under its sentence. */
public final class TickEdgesTest {
    private static final long ONE = 268435456L;
    private static final int RATE = 4000000;
    private static final long[] LEVEL = {ONE, 0, 0, 0};

    public static void main(String[] args) {
        stateBinsAreRoundedDown();
        stateSegmentsComeOneAfterTheOther();
        stateASegmentAtRestTakesItsTicks();
        stateWithoutSegmentsAllRatesAreZero();
        step1EarthBeforeTheTurn();
        step1EarthByTheTrueAttitude();
        step2ScaleIsRoundedDown();
        step2ScaleTakesTheEarthToo();
        step2ScaleTakesTheRateAlone();
        step2SlopeIsRoundedDown();
        step2NoAmplitudeDrawsNothing();
        step2AxesDrawInOrder();
        step3TruthTurnsByTheScriptAlone();
        step3GravityAfterTheTurn();
        step4NoValueIsZero();
        step4PresentBinAlone();
        step4SumsLeaveTheBiasEstimateIn();
        step5CoarseTurn();
        step5NoTurnBefore();
        step5ConingIsRoundedDown();
        step5ConingTwelfths();
        step5ConingWithoutTheEarth();
        step5LatestTurnIsWithoutConing();
        step5LatestTurnUnderEveryMethod();
        step5LatestTurnIsNoTurnByHand();
        step6LevellingIsShiftedByTheGain();
        step6LevellingIsRoundedDown();
        step6AsByMethod1();
        step6GainZeroIsOff();
        Check.end();
    }

    private static void dueTruth(String what, InertialReference r, long[] due) {
        for (int k = 0; k < 4; k++) {
            Check.due("truth(" + k + ") " + what, r.truth(k), due[k]);
        }
    }

    private static InertialReference withRates(int x, int y, int z) {
        InertialReference r = new InertialReference();
        r.addSegment(1, x, y, z);
        return r;
    }

    /** State: "Its bin is temperature / 10, rounded down": each bin's first and last temperature. */
    private static void stateBinsAreRoundedDown() {
        int[] temperatures = {-40, -31, -30, -21, -20, -11, -10, -1, 0, 9, 10, 19, 20, 25, 29, 30, 79, 80, 85};
        int[] bins = {-4, -4, -3, -3, -2, -2, -1, -1, 0, 0, 1, 1, 2, 2, 2, 3, 7, 8, 8};
        for (int k = 0; k < bins.length; k++) {
            InertialReference r = new InertialReference();
            r.setTemperature(temperatures[k]);
            r.learnCompensation();
            Check.due("values in bin " + bins[k] + " learned at " + temperatures[k], r.forgetBin(bins[k]), 3);
        }
    }

    /** State: "The body turns by the segments one after the other; each tick uses up one tick of the first segment". */
    private static void stateSegmentsComeOneAfterTheOther() {
        InertialReference r = new InertialReference();
        r.addSegment(1, 300000, 0, 0);
        r.addSegment(2, 0, -200000, 0);
        r.addSegment(1, 0, 0, 100000);
        r.run(4);
        InertialReference byHand = new InertialReference();
        byHand.turnTruth(300000, 0, 0);
        byHand.turnTruth(0, -200000, 0);
        byHand.turnTruth(0, -200000, 0);
        byHand.turnTruth(0, 0, 100000);
        for (int k = 0; k < 4; k++) {
            Check.due("truth(" + k + ") after three segments", r.truth(k), byHand.truth(k));
        }
        Check.due("ticks left", r.scriptTicks(), 0);
    }

    /** State: "each tick uses up one tick of the first segment", whose rates may be 0. */
    private static void stateASegmentAtRestTakesItsTicks() {
        InertialReference r = new InertialReference();
        r.addSegment(2, 0, 0, 0);
        r.addSegment(1, 5, 0, 0);
        r.run(2);
        Check.due("gyro(0) at rest", r.gyro(0), 0);
        Check.due("ticks left", r.scriptTicks(), 1);
        r.run(1);
        Check.due("gyro(0) after the rest", r.gyro(0), 5);
    }

    /** State: "a segment that is used up is removed. Without segments all rates are 0." */
    private static void stateWithoutSegmentsAllRatesAreZero() {
        InertialReference r = withRates(5, 6, 7);
        r.run(1);
        Check.due("gyro(2) in the only tick", r.gyro(2), 7);
        r.run(1);
        for (int axis = 0; axis < 3; axis++) {
            Check.due("gyro(" + axis + ") without segments", r.gyro(axis), 0);
        }
        Check.due("segments left", r.clearScript(), 0);
    }

    /** Step 1: the earth rate is seen "by the matrix of the true attitude", which turns in step 3 only. */
    private static void step1EarthBeforeTheTurn() {
        InertialReference r = new InertialReference();
        r.setEarthRate(0, 65536);
        r.addSegment(2, RATE, 0, 0);
        r.run(1);
        Check.due("down is still on axis 2", r.gyro(2), 65536);
        Check.due("and not on axis 1", r.gyro(1), 0);
        long[] turned = Model.turnedParts(LEVEL, RATE, 0, 0, true);
        r.run(1);
        Check.due("a tick later on axis 1 too", r.gyro(1), Model.inBody(turned, 0, 0, 65536)[1]);
        Check.holds("which is not little", r.gyro(1) > 900);
    }

    /** Step 1: "by the matrix of the true attitude", not of the estimated one. */
    private static void step1EarthByTheTrueAttitude() {
        InertialReference r = new InertialReference();
        r.setEarthRate(-65536, 65536);
        r.turnEstimate(RATE, RATE, RATE);
        r.run(1);
        Check.due("north of a level body", r.gyro(0), -65536);
        Check.due("down of a level body", r.gyro(2), 65536);
    }

    /** Step 2: "(g * scale) / 1000000", rounded down on both sides of 0. */
    private static void step2ScaleIsRoundedDown() {
        int[] scales = {1, 1, 1, 1, -1, -1, -1, -1, 10000, -10000};
        int[] rates = {999999, 1000000, -1, -1000001, 1, 1000000, 1000001, -999999, -150, 150};
        int[] errors = {0, 1, -1, -2, -1, -1, -2, 0, -2, -2};
        for (int k = 0; k < rates.length; k++) {
            InertialReference r = withRates(rates[k], 0, 0);
            r.setGyro(0, 0, scales[k], 0, 0);
            r.run(1);
            Check.due("scale " + scales[k] + " at a rate of " + rates[k], r.gyro(0), rates[k] + errors[k]);
        }
    }

    /** Step 2: "with the g of this axis", of which the earth rate is a part. */
    private static void step2ScaleTakesTheEarthToo() {
        for (int sign = -1; sign <= 1; sign += 2) {
            InertialReference r = new InertialReference();
            r.setEarthRate(sign * 65536, 0);
            r.setGyro(0, 0, 10000, 0, 0);
            r.run(1);
            Check.due("scaled earth", r.gyro(0), sign > 0 ? 65536 + 655 : -65536 - 656);
        }
    }

    /** Step 2: "r = g + (g * scale) / 1000000 + bias + ..": of these, g alone is scaled. */
    private static void step2ScaleTakesTheRateAlone() {
        InertialReference r = withRates(50000, 0, 0);
        r.setGyro(0, 100000, 10000, 0, 1000);
        r.setTemperature(85);
        r.run(1);
        Check.due("rate, scale, bias and slope", r.gyro(0), 50000 + 500 + 100000 + 6000);
    }

    /** Step 2: "(slope * (temperature - 25)) / 10", rounded down on both sides of 25 degrees. */
    private static void step2SlopeIsRoundedDown() {
        int[] slopes = {1, 1, 1, 1, 1, 1, -1, -1, -1, 3};
        int[] temperatures = {25, 24, 15, 14, 34, 35, 24, 26, 36, 22};
        int[] errors = {0, -1, -1, -2, 0, 1, 0, -1, -2, -1};
        for (int k = 0; k < slopes.length; k++) {
            InertialReference r = new InertialReference();
            r.setGyro(1, 0, 0, 0, slopes[k]);
            r.setTemperature(temperatures[k]);
            r.run(1);
            Check.due("slope " + slopes[k] + " at " + temperatures[k], r.gyro(1), errors[k]);
        }
    }

    /** Step 2: "d is 0 if the noise amplitude a is 0; otherwise a number below 2 * a + 1 is drawn". */
    private static void step2NoAmplitudeDrawsNothing() {
        InertialReference r = new InertialReference();
        r.setSeed(77);
        r.run(200);
        Check.due("the state without noise", r.setSeed(77), 77);
        r.setGyro(1, 0, 0, 1, 0);
        r.run(1);
        Check.due("the state after one drawing", r.setSeed(77), 77 * 1103515245 + 12345);
    }

    /** Step 2: "in the order of the axes": each axis draws its own number. */
    private static void step2AxesDrawInOrder() {
        InertialReference r = new InertialReference();
        int seed = 790079107;
        r.setSeed(seed);
        long[] due = new long[3];
        for (int axis = 0; axis < 3; axis++) {
            r.setGyro(axis, 0, 0, 100 + axis, 0);
            seed = seed * 1103515245 + 12345;
            due[axis] = (seed >>> 16) % (2 * (100 + axis) + 1) - (100 + axis);
        }
        r.run(1);
        for (int axis = 0; axis < 3; axis++) {
            Check.due("noise of axis " + axis, r.gyro(axis), due[axis]);
        }
        Check.due("the state after three drawings", r.setSeed(0), seed);
    }

    /** Step 3: "The true attitude is turned by w", neither by the earth nor by what the gyros read. */
    private static void step3TruthTurnsByTheScriptAlone() {
        InertialReference r = new InertialReference();
        r.setEarthRate(65536, 65536);
        r.setGyro(0, 100000, 10000, 10000, 1000);
        r.setTemperature(85);
        r.run(1);
        dueTruth("without segments", r, LEVEL);
        r.addSegment(1, RATE, -RATE, RATE);
        r.run(1);
        dueTruth("with a segment", r, Model.turnedParts(LEVEL, RATE, -RATE, RATE, true));
    }

    /** Step 3: "Then the reading of the accelerometer": after this tick's turn. */
    private static void step3GravityAfterTheTurn() {
        InertialReference r = withRates(RATE, -RATE, RATE);
        r.run(1);
        long[] up = Model.inBody(Model.turnedParts(LEVEL, RATE, -RATE, RATE, true), 0, 0, -ONE);
        for (int axis = 0; axis < 3; axis++) {
            Check.due("accelerometer(" + axis + ") after the turn", r.accelerometer(axis), up[axis]);
        }
        Check.holds("which is no level body's", up[0] != 0 && up[1] != 0);
    }

    /** Step 4: "(0 if there is none)": no value yet, one on another axis, and one that was forgotten. */
    private static void step4NoValueIsZero() {
        InertialReference r = withRates(1000, 0, 0);
        r.setCompensation(1, 2, 500);
        r.setCompensation(0, 2, 700);
        r.forgetBin(2);
        r.setCompensation(1, 2, 500);
        r.startCalibration(1);
        r.run(1);
        Check.due("without a value", r.biasEstimate(0), 1000);
        Check.due("with a value", r.biasEstimate(1), -500);
        Check.due("without a value or a rate", r.biasEstimate(2), 0);
    }

    /** Step 4: "for the axis and the present bin": the bin changes at 30 degrees, not at 29. */
    private static void step4PresentBinAlone() {
        InertialReference r = new InertialReference();
        r.setCompensation(0, 2, 200);
        r.setCompensation(0, 3, 300);
        int[] temperatures = {20, 29, 30, 39, 40, 19};
        int[] values = {200, 200, 300, 300, 0, 0};
        for (int k = 0; k < values.length; k++) {
            r.setTemperature(temperatures[k]);
            r.startCalibration(1);
            r.run(1);
            Check.due("compensation at " + temperatures[k], r.biasEstimate(0), -values[k]);
        }
    }

    /** Step 4: k "is added to the sum", and only then "c" is "k minus the bias estimate". */
    private static void step4SumsLeaveTheBiasEstimateIn() {
        InertialReference r = new InertialReference();
        r.setGyro(0, 1000, 0, 0, 0);
        for (int time = 1; time <= 3; time++) {
            r.startCalibration(2);
            r.run(2);
            Check.due("biasEstimate(0) of calibration " + time, r.biasEstimate(0), 1000);
        }
        Check.due("two ticks of 1000, before the estimate was there", r.errorAngle(), 2000);
    }

    /** Step 5: "method 0: by v, but with c = ONE and s = ONE in the formula for turning", then normalized. */
    private static void step5CoarseTurn() {
        for (int sign = -1; sign <= 1; sign += 2) {
            InertialReference r = withRates(sign * RATE, RATE, sign * RATE);
            r.setMethod(0);
            r.run(1);
            long[] coarse = Model.turnedParts(LEVEL, sign * RATE, RATE, sign * RATE, false);
            Parts.dueEstimate("by method 0", r, coarse);
            Check.holds("another than by method 1",
                    coarse[1] != Model.turnedParts(LEVEL, sign * RATE, RATE, sign * RATE, true)[1]);
        }
    }

    /** The vector of method 2: v, and what its coning with the latest turn vector u adds. */
    private static long[] coned(long[] u, long[] v) {
        return new long[] {
            v[0] + Math.floorDiv((u[1] * v[2] - u[2] * v[1]) >> 28, 12L),
            v[1] + Math.floorDiv((u[2] * v[0] - u[0] * v[2]) >> 28, 12L),
            v[2] + Math.floorDiv((u[0] * v[1] - u[1] * v[0]) >> 28, 12L),
        };
    }

    private static long[] afterMethod2(long[] parts, long[] u, long[] v) {
        long[] by = coned(u, v);
        return Model.turnedParts(parts, by[0], by[1], by[2], true);
    }

    /** State: "the latest turn vector (0 at first)". */
    private static void step5NoTurnBefore() {
        InertialReference r = withRates(RATE, -RATE, RATE / 2);
        r.setMethod(2);
        r.run(1);
        Parts.dueEstimate("by method 2 at first", r, Model.turnedParts(LEVEL, RATE, -RATE, RATE / 2, true));
    }

    /** Step 5: "((u x v) >> 28) / 12", rounded down: -4 >> 28 is -1, and -1 / 12 is -1. */
    private static void step5ConingIsRoundedDown() {
        InertialReference r = withRates(2, 0, 0);
        r.addSegment(1, 0, -2, 0);
        r.setMethod(2);
        r.run(2);
        // The coning's -1 about z is half of -1, rounded down, and the product loses 1 more.
        Check.due("estimate(3) after the least negative coning", r.estimate(3), -2);
        InertialReference above = withRates(2, 0, 0);
        above.addSegment(1, 0, 2, 0);
        above.setMethod(2);
        above.run(2);
        Check.due("estimate(3) after the least positive coning", above.estimate(3), 0);
    }

    /** Step 5: "/ 12": the coning is 0 up to 11, 1 from 12 on, -1 from -1 down to -12, and -2 from -13 on. */
    private static void step5ConingTwelfths() {
        int[] rates = {53687, 53688, -4473, -4474, -49213, -53687, -53688};
        int[] crossed = {11, 12, -1, -2, -11, -12, -13};
        int[] twelfths = {0, 1, -1, -1, -1, -1, -2};
        for (int k = 0; k < rates.length; k++) {
            for (int z = 0; z <= 1; z++) {
                Check.due("(u x v) >> 28", (60000L * rates[k]) >> 28, crossed[k]);
                InertialReference r = withRates(60000, 0, 0);
                r.addSegment(1, 0, rates[k], z);
                r.setMethod(2);
                r.run(2);
                long[] first = Model.turnedParts(LEVEL, 60000, 0, 0, true);
                // The cross product's part about y is -60000 * z, and -1 or 0 when shifted.
                long[] second = Model.turnedParts(first, 0, rates[k] - z, z + twelfths[k], true);
                Parts.dueEstimate("with a coning of " + crossed[k] + " / 12", r, second);
            }
        }
    }

    /** Step 5: "u x v", where v is "the vector c minus the earth rate", and u was that before. */
    private static void step5ConingWithoutTheEarth() {
        int[][] rates = {{RATE, 0, 100000}, {0, RATE, -RATE}, {-RATE, RATE / 2, RATE}};
        InertialReference r = new InertialReference();
        r.setEarthRate(65536, -65536);
        r.setMethod(2);
        long[] due = LEVEL;
        long[] truth = LEVEL;
        long[] latest = {0, 0, 0};
        for (int[] w : rates) {
            r.addSegment(1, w[0], w[1], w[2]);
            r.run(1);
            long[] read = Model.inBody(truth, 65536, 0, -65536);
            long[] known = Model.inBody(due, 65536, 0, -65536);
            long[] v = {w[0] + read[0] - known[0], w[1] + read[1] - known[1], w[2] + read[2] - known[2]};
            due = afterMethod2(due, latest, v);
            truth = Model.turnedParts(truth, w[0], w[1], w[2], true);
            latest = v;
            Parts.dueEstimate("by method 2 beside the earth", r, due);
        }
    }

    /** Step 5: "The latest turn vector becomes v", without what coning adds to v. */
    private static void step5LatestTurnIsWithoutConing() {
        long[][] v = {{RATE, 0, 100000}, {0, RATE, -RATE}, {-RATE, RATE / 2, RATE}, {RATE, RATE, RATE}};
        InertialReference r = new InertialReference();
        r.setMethod(2);
        long[] due = LEVEL;
        long[] latest = {0, 0, 0};
        for (long[] turn : v) {
            r.addSegment(1, (int) turn[0], (int) turn[1], (int) turn[2]);
            r.run(1);
            due = afterMethod2(due, latest, turn);
            latest = turn;
            Parts.dueEstimate("by method 2", r, due);
        }
    }

    /** Step 5: "The latest turn vector becomes v", by methods 0 and 1 too. */
    private static void step5LatestTurnUnderEveryMethod() {
        long[] u = {RATE, 0, -RATE};
        long[] v = {0, RATE, RATE};
        for (int method = 0; method <= 2; method++) {
            InertialReference r = withRates((int) u[0], (int) u[1], (int) u[2]);
            r.addSegment(1, (int) v[0], (int) v[1], (int) v[2]);
            r.setMethod(method);
            r.run(1);
            r.setMethod(2);
            r.run(1);
            long[] first = Model.turnedParts(LEVEL, u[0], u[1], u[2], method != 0);
            Parts.dueEstimate("by method 2 after method " + method, r, afterMethod2(first, u, v));
        }
    }

    /** Step 5: the latest turn vector is a tick's: neither a turn by hand nor a recalled attitude changes it. */
    private static void step5LatestTurnIsNoTurnByHand() {
        long[] u = {RATE, 0, -RATE};
        long[] v = {0, RATE, RATE};
        InertialReference r = withRates((int) u[0], (int) u[1], (int) u[2]);
        r.addSegment(1, (int) v[0], (int) v[1], (int) v[2]);
        r.setMethod(2);
        r.store(1);
        r.run(1);
        r.turnEstimate(-RATE, -RATE, 0);
        r.turnTruth(0, RATE, RATE);
        r.recall(1);
        r.run(1);
        Parts.dueEstimate("by method 2 from a recalled attitude", r, afterMethod2(LEVEL, u, v));
    }

    /** The estimate after step 6, when it was at parts after step 5 and the body is level. */
    private static long[] levelled(long[] parts, long[] readings, int gain) {
        long[] up = Model.inBody(parts, 0, 0, -ONE);
        return Model.turnedParts(parts,
                (readings[1] * up[2] - readings[2] * up[1]) >> (28 + gain),
                (readings[2] * up[0] - readings[0] * up[2]) >> (28 + gain),
                (readings[0] * up[1] - readings[1] * up[0]) >> (28 + gain), true);
    }

    /** Step 6: "(m x p) >> (28 + gain)", for each gain, with p of the attitude that step 5 has turned. */
    private static void step6LevellingIsShiftedByTheGain() {
        for (int gain = 1; gain <= 20; gain++) {
            for (int sign = -1; sign <= 1; sign += 2) {
                InertialReference r = new InertialReference();
                r.setAccelerometer(0, sign * 10000000);
                r.setAccelerometer(1, 7654321);
                r.setAccelerometer(2, -sign * 1234567);
                r.setGyro(0, 100000, 0, 0, 0);
                r.setGyro(1, sign * 90000, 0, 0, 0);
                r.setLevelling(gain);
                r.run(1);
                long[] readings = {sign * 10000000, 7654321, -ONE - sign * 1234567};
                long[] propagated = Model.turnedParts(LEVEL, 100000, sign * 90000, 0, true);
                Parts.dueEstimate("levelled by " + gain, r, levelled(propagated, readings, gain));
            }
        }
    }

    /** Step 6: ">>" rounds down: a reading of -1 turns by -1 about y whatever the gain, and one of 1 by 0. */
    private static void step6LevellingIsRoundedDown() {
        for (int gain = 1; gain <= 20; gain++) {
            for (int axis = 0; axis <= 1; axis++) {
                for (int reading = -1; reading <= 1; reading++) {
                    InertialReference r = new InertialReference();
                    r.setAccelerometer(axis, reading);
                    r.setLevelling(gain);
                    r.run(1);
                    // m x p is (-m1 * ONE, m0 * ONE, 0).
                    Check.due("estimate(1) of a reading of " + reading + " on " + axis, r.estimate(1),
                            axis == 1 && reading == 1 ? -1 : 0);
                    Check.due("estimate(2) of a reading of " + reading + " on " + axis, r.estimate(2),
                            axis == 0 && reading == -1 ? -1 : 0);
                }
            }
        }
    }

    /** Step 6: "as by method 1", whatever the method of step 5 is; here step 5 turns by 0, and step 6 by much. */
    private static void step6AsByMethod1() {
        for (int method = 0; method <= 2; method++) {
            InertialReference r = new InertialReference();
            r.setMethod(method);
            r.setAccelerometer(0, 10000000);
            r.setAccelerometer(1, -10000000);
            r.setLevelling(1);
            r.run(1);
            long[] readings = {10000000, -10000000, -ONE};
            Parts.dueEstimate("levelled beside method " + method, r, levelled(LEVEL, readings, 1));
        }
    }

    /** Step 6: "If the levelling gain is greater than 0". */
    private static void step6GainZeroIsOff() {
        InertialReference r = new InertialReference();
        r.turnEstimate(1000000, 0, 0);
        r.setAccelerometer(0, 10000000);
        long[] before = Parts.ofEstimate(r);
        Check.due("setLevelling(1)", r.setLevelling(1), 0);
        Check.due("setLevelling(0)", r.setLevelling(0), 1);
        r.run(10);
        Parts.dueEstimate("without levelling", r, before);
    }
}
