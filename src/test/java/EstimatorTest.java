/** Promises 15 to 25: the estimator. */
public final class EstimatorTest {
    private static final int[] NO_AXES = {-1, 3, Integer.MIN_VALUE, Integer.MAX_VALUE};

    public static void main(String[] args) {
        promise15Method();
        promise15MethodsDiffer();
        promise16Levelling();
        promise16LevellingGain();
        promise17Heading();
        promise17HeadingNeedsSlowRates();
        promise17HeadingStartsAnew();
        promise17HeadingIsLimited();
        promise18StartCalibration();
        promise18CalibrationRoundsDown();
        promise18CalibrationTakesTheEarthAway();
        promise19CalibrationLeft();
        promise20BiasEstimate();
        promise21SetCompensation();
        promise21CompensationWorks();
        promise22LearnCompensation();
        promise22LearningIsLimited();
        promise23Compensation();
        promise24ForgetBin();
        promise25TurnEstimate();
        Check.end();
    }

    private static void promise15Method() {
        InertialReference r = new InertialReference();
        Check.due("setMethod(0)", r.setMethod(0), 1);
        Check.due("setMethod(2)", r.setMethod(2), 0);
        Check.due("setMethod(3)", r.setMethod(3), -2);
        Check.due("setMethod(-1)", r.setMethod(-1), -2);
        Check.due("setMethod(1) after refused calls", r.setMethod(1), 2);
        Check.range("setMethod", 0, 2, -2, r::setMethod);
    }

    /** One tick of 4000000 about x, by hand: h = 2000000 and n = 14901. */
    private static void promise15MethodsDiffer() {
        long one = 268435456L;
        long n = (2000000L * 2000000L) >> 28;
        long[][] step = {{one, 2000000L}, {one - (n >> 1), (2000000L * (one - n / 6)) >> 28}};
        long[][] turned = new long[2][2];
        for (int k = 0; k < 2; k++) {
            long m = (step[k][0] * step[k][0] + step[k][1] * step[k][1]) >> 28;
            long f = one + ((one - m) >> 1);
            turned[k][0] = (step[k][0] * f) >> 28;
            turned[k][1] = (step[k][1] * f) >> 28;
        }
        for (int method = 0; method <= 2; method++) {
            InertialReference r = new InertialReference();
            r.setMethod(method);
            r.addSegment(1, 4000000, 0, 0);
            r.run(1);
            Check.due("estimate(0) by method " + method, r.estimate(0), turned[Math.min(method, 1)][0]);
            Check.due("estimate(1) by method " + method, r.estimate(1), turned[Math.min(method, 1)][1]);
            Check.due("truth(0) beside method " + method, r.truth(0), turned[1][0]);
            Check.due("truth(1) beside method " + method, r.truth(1), turned[1][1]);
        }
        Check.holds("the methods differ here", turned[0][1] != turned[1][1]);

        // The coning term: after a turn u about x, a turn v about y adds (u x v) / 12 about z.
        InertialReference coned = new InertialReference();
        InertialReference plain = new InertialReference();
        for (InertialReference r : new InertialReference[] {coned, plain}) {
            r.addSegment(1, 4000000, 0, 0);
            r.addSegment(1, 0, 4000000, 0);
            r.run(1);
            r.setMethod(r == coned ? 2 : 1);
            r.run(1);
        }
        long term = ((4000000L * 4000000L) >> 28) / 12;
        long more = coned.estimate(3) - plain.estimate(3);
        Check.holds("half the coning term about z: " + more, Math.abs(more - term / 2) <= 2);
        Check.due("method 2 without a turn before is method 1", onceByMethod(2), onceByMethod(1));
    }

    private static long onceByMethod(int method) {
        InertialReference r = new InertialReference();
        r.setMethod(method);
        r.addSegment(1, 300000, 200000, -100000);
        r.run(1);
        return r.estimate(3);
    }

    private static void promise16Levelling() {
        InertialReference r = new InertialReference();
        Check.due("setLevelling(1)", r.setLevelling(1), 0);
        Check.due("setLevelling(20)", r.setLevelling(20), 1);
        Check.due("setLevelling(21)", r.setLevelling(21), -2);
        Check.due("setLevelling(-1)", r.setLevelling(-1), -2);
        Check.due("setLevelling(0) after refused calls", r.setLevelling(0), 20);
        Check.due("setLevelling(0) again", r.setLevelling(0), 0);
        Check.range("setLevelling", 0, 20, -2, r::setLevelling);

        InertialReference off = new InertialReference();
        off.turnEstimate(1000000, 500000, 0);
        long tilt = off.tiltError();
        off.run(50);
        Check.due("the tilt without levelling", off.tiltError(), tilt);
        off.setLevelling(2);
        off.run(50);
        Check.holds("the tilt with levelling: " + off.tiltError(), off.tiltError() < 100);
        off.setLevelling(0);
        off.turnEstimate(0, 1000, 0);
        long left = off.tiltError();
        off.run(50);
        Check.due("the tilt with levelling off again", off.tiltError(), left);
    }

    /** One tick with a level body: the readings are (1000000, 0, -ONE), so that y turns by -1000000 >> gain. */
    private static void promise16LevellingGain() {
        for (int gain = 1; gain <= 20; gain++) {
            InertialReference r = new InertialReference();
            r.setAccelerometer(0, 1000000);
            r.setLevelling(gain);
            r.run(1);
            InertialReference turned = new InertialReference();
            long y = 1000000L >> gain;
            turned.turnEstimate(0, (int) y, 0);
            Check.due("estimate(2) at gain " + gain, r.estimate(2), turned.estimate(2));
            Check.due("truth(2) at gain " + gain, r.truth(2), 0);
        }
    }

    private static void promise17Heading() {
        InertialReference r = new InertialReference();
        Check.due("setHeading(1)", r.setHeading(1), 0);
        Check.due("setHeading(20)", r.setHeading(20), 1);
        Check.due("setHeading(21)", r.setHeading(21), -2);
        Check.due("setHeading(-1)", r.setHeading(-1), -2);
        Check.due("setHeading(0) after refused calls", r.setHeading(0), 20);
        Check.range("setHeading", 0, 20, -2, r::setHeading);

        // Without a rate of the earth there is no north to find, and nothing to divide by.
        InertialReference still = new InertialReference();
        still.setGyro(0, 1000, 0, 0, 0);
        still.setHeading(4);
        still.run(1);
        Check.due("estimate(1) without earth", still.estimate(1), 500);
        Check.due("estimate(2) without earth", still.estimate(2), 0);
        Check.due("estimate(3) without earth", still.estimate(3), 0);

        InertialReference north = new InertialReference();
        north.setEarthRate(20000, 0);
        north.turnEstimate(0, 0, 500000);
        north.setHeading(4);
        north.run(100);
        Check.holds("heading error shrinks: " + north.errorAngle(), north.errorAngle() < 480000);
        north.setHeading(0);
        long left = north.errorAngle();
        north.run(1);
        Check.holds("off: only the earth moves it: " + north.errorAngle(), Math.abs(north.errorAngle() - left) < 100);
    }

    /** c may be up to 262144 on every axis, and no more; what lies beyond leaves the filter and the attitude. */
    private static void promise17HeadingNeedsSlowRates() {
        int[] rates = {262144, 262145, -262144, -262145};
        for (int axis = 0; axis < 3; axis++) {
            for (int rate : rates) {
                InertialReference on = new InertialReference();
                InertialReference off = new InertialReference();
                for (InertialReference r : new InertialReference[] {on, off}) {
                    // The earth's 1000 are a part of c on axis 0.
                    r.setEarthRate(1000, 0);
                    r.turnEstimate(0, 4000000, 4000000);
                    r.addSegment(1, axis == 0 ? rate - 1000 : 0, axis == 1 ? rate : 0, axis == 2 ? rate : 0);
                }
                on.setHeading(1);
                on.run(1);
                off.run(1);
                boolean same = true;
                for (int k = 0; k < 4; k++) {
                    same = same && on.estimate(k) == off.estimate(k);
                }
                boolean slow = Math.abs(rate) <= 262144;
                Check.holds("heading at a rate of " + rate + " on axis " + axis, same != slow);
            }
        }
    }

    private static void promise17HeadingStartsAnew() {
        InertialReference anew = new InertialReference();
        InertialReference kept = new InertialReference();
        for (InertialReference r : new InertialReference[] {anew, kept}) {
            r.setEarthRate(20000, 0);
            r.setGyro(1, 5000, 0, 0, 0);
            r.setHeading(8);
            r.run(10);
            r.setGyro(1, 0, 0, 0, 0);
        }
        anew.setHeading(0);
        anew.setHeading(8);
        kept.setHeading(7);
        kept.setHeading(8);
        long before = anew.estimate(3);
        anew.run(1);
        kept.run(1);
        // What the filter has kept of 5000 about y turns by some 117000 about z.
        Check.holds("the filter begins at 0", Math.abs(anew.estimate(3) - before) < 1000);
        Check.holds("another gain keeps the filter", Math.abs(kept.estimate(3) - before) > 10000);
    }

    /** f = 16384 about y and e = 1000 about x: far more than the limit of 16777216 about z. */
    private static void promise17HeadingIsLimited() {
        for (int sign = -1; sign <= 1; sign += 2) {
            InertialReference r = new InertialReference();
            r.setEarthRate(1000, 0);
            r.addSegment(1, 0, sign * 262144, 0);
            r.setHeading(1);
            r.run(1);
            InertialReference limited = new InertialReference();
            limited.addSegment(1, 0, sign * 262144, 0);
            limited.run(1);
            for (int k = 0; k < 4; k++) {
                limited.turnEstimate(0, 0, -sign * 4000000);
            }
            limited.turnEstimate(0, 0, -sign * 777216);
            Check.holds("heading limited: " + r.estimate(3) + " about " + limited.estimate(3),
                    Math.abs(r.estimate(3) - limited.estimate(3)) < 5000);
        }
    }

    private static void promise18StartCalibration() {
        InertialReference r = new InertialReference();
        Check.due("startCalibration(0)", r.startCalibration(0), -2);
        Check.due("startCalibration(1001)", r.startCalibration(1001), -2);
        Check.due("startCalibration(-1)", r.startCalibration(-1), -2);
        Check.due("nothing runs after refused calls", r.calibrationLeft(), 0);
        Check.due("startCalibration(2)", r.startCalibration(2), 0);
        Check.due("startCalibration(1) while one runs", r.startCalibration(1), -4);
        Check.due("startCalibration(0) while one runs", r.startCalibration(0), -2);
        Check.due("startCalibration(1001) while one runs", r.startCalibration(1001), -2);
        Check.due("the first runs on", r.calibrationLeft(), 2);
        r.run(2);
        Check.due("startCalibration(1000)", r.startCalibration(1000), 0);
        Check.due("calibrationLeft", r.calibrationLeft(), 1000);
        InertialReference ends = new InertialReference();
        Check.due("startCalibration(1)", ends.startCalibration(1), 0);
        for (int v : new int[] {Integer.MIN_VALUE, Integer.MAX_VALUE}) {
            Check.due("startCalibration(" + v + ")", ends.startCalibration(v), -2);
        }

        // The sums begin at 0, and the readings count without the estimate that stands.
        InertialReference twice = new InertialReference();
        twice.setGyro(0, 100, 0, 0, 0);
        twice.startCalibration(4);
        twice.run(4);
        twice.setGyro(0, 300, 0, 0, 0);
        twice.startCalibration(4);
        twice.run(3);
        Check.due("biasEstimate(0) until the end", twice.biasEstimate(0), 100);
        twice.run(5);
        Check.due("biasEstimate(0) of the second", twice.biasEstimate(0), 300);
    }

    private static void promise18CalibrationRoundsDown() {
        InertialReference r = new InertialReference();
        r.addSegment(1, 1, -1, 2);
        r.startCalibration(3);
        r.run(3);
        Check.due("1 / 3", r.biasEstimate(0), 0);
        Check.due("-1 / 3", r.biasEstimate(1), -1);
        Check.due("2 / 3", r.biasEstimate(2), 0);
    }

    private static void promise18CalibrationTakesTheEarthAway() {
        InertialReference r = new InertialReference();
        r.setEarthRate(3000, -4000);
        r.setGyro(0, 10, 0, 0, 0);
        r.setGyro(2, -20, 0, 0, 0);
        r.startCalibration(1);
        r.run(1);
        Check.due("biasEstimate(0) beside the earth", r.biasEstimate(0), 10);
        Check.due("biasEstimate(1) beside the earth", r.biasEstimate(1), 0);
        // The biases have turned the estimate to (ONE, 5, 0, -10), whose r02 is -2, so that e is -4001 here.
        Check.due("biasEstimate(2) beside the earth", r.biasEstimate(2), -4020 + 4001);
        long before = r.estimate(1);
        r.run(20);
        Check.holds("a known bias turns no more", Math.abs(r.estimate(1) - before) < 40);
    }

    private static void promise19CalibrationLeft() {
        InertialReference r = new InertialReference();
        Check.due("none", r.calibrationLeft(), 0);
        r.startCalibration(5);
        Check.due("at the start", r.calibrationLeft(), 5);
        r.run(2);
        Check.due("after two ticks", r.calibrationLeft(), 3);
        r.run(3);
        Check.due("at the end", r.calibrationLeft(), 0);
        r.run(3);
        Check.due("behind the end", r.calibrationLeft(), 0);
    }

    private static void promise20BiasEstimate() {
        InertialReference r = new InertialReference();
        r.setGyro(0, 11, 0, 0, 0);
        r.setGyro(1, -22, 0, 0, 0);
        r.setGyro(2, 33, 0, 0, 0);
        r.run(1);
        Check.due("biasEstimate(0) before", r.biasEstimate(0), 0);
        r.startCalibration(2);
        r.run(1);
        Check.due("biasEstimate(1) during", r.biasEstimate(1), 0);
        r.run(1);
        Check.due("biasEstimate(0)", r.biasEstimate(0), 11);
        Check.due("biasEstimate(1)", r.biasEstimate(1), -22);
        Check.due("biasEstimate(2)", r.biasEstimate(2), 33);
        for (int axis : NO_AXES) {
            Check.due("biasEstimate(" + axis + ")", r.biasEstimate(axis), 0);
        }
    }

    private static void promise21SetCompensation() {
        InertialReference r = new InertialReference();
        Check.due("first value", r.setCompensation(0, -4, 1000000), 1);
        Check.due("a value of 0 counts", r.setCompensation(2, 8, 0), 2);
        Check.due("a value in place of another", r.setCompensation(0, -4, -1000000), 2);
        Check.due("a value in place of 0", r.setCompensation(2, 8, 7), 2);
        Check.due("axis 3", r.setCompensation(3, 0, 0), -2);
        Check.due("bin 9", r.setCompensation(0, 9, 0), -2);
        Check.due("bin -5", r.setCompensation(0, -5, 0), -2);
        Check.due("too great a value", r.setCompensation(0, -4, 1000001), -2);
        Check.due("the value after refused calls", r.compensation(0, -4), -1000000);
        InertialReference e = new InertialReference();
        Check.range("setCompensation: axis", 0, 2, -2, v -> e.setCompensation(v, 0, 0));
        Check.range("setCompensation: bin", -4, 8, -2, v -> e.setCompensation(0, v, 0));
        Check.range("setCompensation: value", -1000000, 1000000, -2, v -> e.setCompensation(0, 0, v));
        InertialReference all = new InertialReference();
        int values = 0;
        for (int axis = 0; axis < 3; axis++) {
            for (int bin = -4; bin <= 8; bin++) {
                values++;
                Check.due("values in the table", all.setCompensation(axis, bin, 100 * axis + bin), values);
            }
        }
        for (int axis = 0; axis < 3; axis++) {
            for (int bin = -4; bin <= 8; bin++) {
                Check.due("compensation(" + axis + ", " + bin + ")", all.compensation(axis, bin), 100 * axis + bin);
            }
        }
    }

    private static void promise21CompensationWorks() {
        InertialReference r = new InertialReference();
        r.setGyro(0, 1000, 0, 0, 0);
        r.setCompensation(0, 2, 1000);
        r.setCompensation(1, 3, 600);
        r.run(1);
        Check.due("the reading is not compensated", r.gyro(0), 1000);
        Check.due("a compensated gyro turns nothing", r.estimate(1), 0);
        Check.due("another bin's value turns nothing", r.estimate(2), 0);
        r.setTemperature(30);
        r.run(1);
        Check.due("in another bin the gyro turns", r.estimate(1), 500);
        Check.due("this bin's value turns back", r.estimate(2), -300);
    }

    private static void promise22LearnCompensation() {
        InertialReference r = new InertialReference();
        r.setGyro(0, 1000, 0, 0, 0);
        r.setGyro(1, -500, 0, 0, 0);
        r.setCompensation(1, 2, 40);
        r.startCalibration(2);
        Check.due("learnCompensation while a calibration runs", r.learnCompensation(), -4);
        Check.due("values after the refused call", r.compensation(0, 2), 0);
        r.run(2);
        Check.due("biasEstimate(1) beside the table", r.biasEstimate(1), -540);
        Check.due("learnCompensation", r.learnCompensation(), 3);
        Check.due("compensation(0, 2)", r.compensation(0, 2), 1000);
        Check.due("compensation(1, 2)", r.compensation(1, 2), -500);
        Check.due("compensation(2, 2)", r.compensation(2, 2), 0);
        for (int axis = 0; axis < 3; axis++) {
            Check.due("biasEstimate(" + axis + ")", r.biasEstimate(axis), 0);
        }
        Check.due("learning again changes nothing", r.learnCompensation(), 3);
        Check.due("compensation(0, 2) again", r.compensation(0, 2), 1000);
        r.setTemperature(-1);
        Check.due("learning in another bin", r.learnCompensation(), 6);
        Check.due("three values there", r.forgetBin(-1), 3);
    }

    private static void promise22LearningIsLimited() {
        for (int sign = -1; sign <= 1; sign += 2) {
            InertialReference r = new InertialReference();
            r.setGyro(0, sign * 100000, 0, 0, 0);
            r.startCalibration(1);
            r.run(1);
            r.setCompensation(0, 2, sign * 900000);
            r.learnCompensation();
            Check.due("just at the limit", r.compensation(0, 2), sign * 1000000);
            r.setCompensation(0, 2, 0);
            r.startCalibration(1);
            r.run(1);
            r.setCompensation(0, 2, sign * 900001);
            r.learnCompensation();
            Check.due("beyond the limit", r.compensation(0, 2), sign * 1000000);
            Check.due("what lies beyond is lost", r.biasEstimate(0), 0);
        }
        InertialReference far = new InertialReference();
        far.addSegment(1, 4000000, -4000000, 0);
        far.startCalibration(1);
        far.run(1);
        far.learnCompensation();
        Check.due("far beyond the limit", far.compensation(0, 2), 1000000);
        Check.due("far below the limit", far.compensation(1, 2), -1000000);
    }

    private static void promise23Compensation() {
        InertialReference r = new InertialReference();
        r.setCompensation(0, 8, 1);
        r.setCompensation(1, -4, 2);
        r.setCompensation(2, 0, 3);
        Check.due("compensation(0, 8)", r.compensation(0, 8), 1);
        Check.due("compensation(1, -4)", r.compensation(1, -4), 2);
        Check.due("compensation(2, 0)", r.compensation(2, 0), 3);
        for (int bin : new int[] {-5, 9, 13, -17, Integer.MIN_VALUE, Integer.MAX_VALUE}) {
            for (int axis = 0; axis < 3; axis++) {
                Check.due("compensation(" + axis + ", " + bin + ")", r.compensation(axis, bin), 0);
            }
        }
        for (int axis : NO_AXES) {
            Check.due("compensation(" + axis + ", 0)", r.compensation(axis, 0), 0);
        }
    }

    private static void promise24ForgetBin() {
        InertialReference r = new InertialReference();
        r.setCompensation(0, 2, 5);
        r.setCompensation(2, 2, 0);
        r.setCompensation(1, 3, 7);
        Check.due("forgetBin of an empty bin", r.forgetBin(4), 0);
        for (int bin : new int[] {-5, 9, Integer.MIN_VALUE, Integer.MAX_VALUE}) {
            Check.due("forgetBin(" + bin + ")", r.forgetBin(bin), 0);
        }
        Check.due("forgetBin(2)", r.forgetBin(2), 2);
        Check.due("compensation(0, 2)", r.compensation(0, 2), 0);
        Check.due("compensation(1, 3)", r.compensation(1, 3), 7);
        Check.due("forgetBin(2) again", r.forgetBin(2), 0);
        Check.due("values left", r.setCompensation(1, 3, 8), 1);
        Check.due("a value set again counts again", r.setCompensation(0, 2, 0), 2);
    }

    private static void promise25TurnEstimate() {
        InertialReference r = new InertialReference();
        Check.due("turnEstimate", r.turnEstimate(1000000, 0, 0), 0);
        Check.due("estimate(0)", r.estimate(0), 268434990);
        Check.due("estimate(1)", r.estimate(1), 499998);
        Check.due("truth(1) stays", r.truth(1), 0);
        Check.due("turnEstimate refused", r.turnEstimate(0, 4000001, 0), -2);
        Check.due("estimate(2) after a refused call", r.estimate(2), 0);
        InertialReference e = new InertialReference();
        Check.range("turnEstimate: x", -4000000, 4000000, -2, v -> e.turnEstimate(v, 0, 0));
        Check.range("turnEstimate: y", -4000000, 4000000, -2, v -> e.turnEstimate(0, v, 0));
        Check.range("turnEstimate: z", -4000000, 4000000, -2, v -> e.turnEstimate(0, 0, v));

        // Method 0 is for ticks alone.
        InertialReference coarse = new InertialReference();
        coarse.setMethod(0);
        coarse.turnEstimate(4000000, 4000000, -4000000);
        InertialReference fine = new InertialReference();
        fine.turnEstimate(4000000, 4000000, -4000000);
        Check.due("turnEstimate under method 0", coarse.estimate(3), fine.estimate(3));
    }
}
