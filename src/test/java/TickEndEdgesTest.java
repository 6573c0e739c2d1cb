/** Steps 7 to 9 of the document's A TICK, angles, and ERRORS, at their edges: each test stands under its sentence. */
public final class TickEndEdgesTest {
    private static final long ONE = 268435456L;
    private static final long[] LEVEL = {ONE, 0, 0, 0};
    private static final long MOST_TURN = 16777216L;

    public static void main(String[] args) {
        step7GainZeroIsOff();
        step7EachGain();
        step7SmallestEarthRates();
        step7RatesUpToTheLimit();
        step7RatesBeyondTheLimit();
        step7BeyondTheLimitNothingTurns();
        step7BeyondTheLimitTheFilterStays();
        step7WithoutEarthNothingIsDone();
        step7FilterIsRoundedDown();
        step7QuotientIsRoundedDown();
        step7TurnsUpToTheLimit();
        step7TurnsBeyondTheLimit();
        step7LimitComesAfterTheGain();
        step7AsByMethod1();
        step7AfterLevelling();
        step8EndsWithItsLastTick();
        step8OldEstimateInTheLastTick();
        step8MeanIsRoundedDown();
        step8EarthByTheEstimatedAttitude();
        step9BinOfATick();
        step9GreatestErrorOfATick();
        step9SmallerErrorIsNotTaken();
        angleFromTruthToEstimate();
        angleFromStoredToEstimate();
        errorsInvalidBeforeFull();
        errorsInvalidBeforeBusy();
        errorsInvalidBeforeFullShelf();
        Check.end();
    }

    /** From now on the ticks of a body at rest have this c: the table at 25 degrees makes up what the earth leaves. */
    private static void correctTo(InertialReference r, int north, int down, int... c) {
        r.setEarthRate(north, down);
        r.setCompensation(0, 2, north - c[0]);
        r.setCompensation(1, 2, -c[1]);
        r.setCompensation(2, 2, down - c[2]);
    }

    /** The estimate that step 5 leaves by method 1. */
    private static long[] propagated(long[] parts, int north, int down, int... c) {
        long[] earth = Model.inBody(parts, north, 0, down);
        return Model.turnedParts(parts, c[0] - earth[0], c[1] - earth[1], c[2] - earth[2], true);
    }

    /** Step 7's turn with this filtered vector, before it is limited. */
    private static long[] headingTurns(long[] parts, int north, int down, long[] f, int gain) {
        long[] e = Model.inBody(parts, north, 0, down);
        long[] turns = {f[1] * e[2] - f[2] * e[1], f[2] * e[0] - f[0] * e[2], f[0] * e[1] - f[1] * e[0]};
        long square = (long) north * north + (long) down * down;
        for (int k = 0; k < 3; k++) {
            turns[k] = (Math.floorDiv(turns[k] << 20, square) << 8) >> gain;
        }
        return turns;
    }

    /** The estimate that step 7 leaves with this filtered vector. */
    private static long[] headed(long[] parts, int north, int down, long[] f, int gain) {
        long[] turns = headingTurns(parts, north, down, f, gain);
        for (int k = 0; k < 3; k++) {
            turns[k] = Math.max(-MOST_TURN, Math.min(MOST_TURN, turns[k]));
        }
        return Model.turnedParts(parts, turns[0], turns[1], turns[2], true);
    }

    /** The filtered vector after the first tick with this c. */
    private static long[] filteredFirst(int... c) {
        return new long[] {c[0] >> 4, c[1] >> 4, c[2] >> 4};
    }

    /** One tick with heading on, from a new object. */
    private static void dueFirstTick(String what, int north, int down, int gain, int... c) {
        InertialReference r = new InertialReference();
        r.setHeading(gain);
        correctTo(r, north, down, c);
        r.run(1);
        Parts.dueEstimate(what, r, headed(propagated(LEVEL, north, down, c), north, down, filteredFirst(c), gain));
    }

    /** Step 7: "If the heading gain is greater than 0": never switched on, and switched off again. */
    private static void step7GainZeroIsOff() {
        InertialReference never = new InertialReference();
        correctTo(never, 1000, 500, 1600, -3200, 4800);
        never.run(1);
        long[] due = propagated(LEVEL, 1000, 500, 1600, -3200, 4800);
        Parts.dueEstimate("with heading never on", never, due);
        InertialReference off = new InertialReference();
        off.store(1);
        off.setHeading(1);
        correctTo(off, 1000, 500, 1600, -3200, 4800);
        off.run(3);
        off.setHeading(0);
        off.recall(1);
        off.run(1);
        Parts.dueEstimate("with heading off again", off, due);
    }

    /** Step 7: ">> gain" for each gain, with "E = north * north + down * down". */
    private static void step7EachGain() {
        for (int gain = 1; gain <= 20; gain++) {
            dueFirstTick("at gain " + gain, 20000, -30000, gain, 1234, -2345, 3456);
            dueFirstTick("at gain " + gain, -20000, 30000, gain, -1234, 2345, 3456);
        }
    }

    /** Step 7: "the earth rate is not (0, 0, 0)": one of its parts may be, and the other may be 1. */
    private static void step7SmallestEarthRates() {
        int[][] rates = {{1, 0}, {-1, 0}, {0, 1}, {0, -1}, {1, 1}, {65536, 0}, {0, -65536}, {65536, 65536}};
        for (int[] rate : rates) {
            for (int gain : new int[] {1, 9, 20}) {
                dueFirstTick("with an earth of " + rate[0] + ", " + rate[1], rate[0], rate[1], gain, 40, -50, 60);
            }
        }
        // By hand: f is (0, -1, 0) and e is (1, 0, 0), so that z turns by 2^28 >> 20.
        InertialReference r = new InertialReference();
        r.setHeading(20);
        correctTo(r, 1, 0, 1, -1, 0);
        r.run(1);
        Check.due("estimate(3) by a north of 1", r.estimate(3), 128);
    }

    /** Step 7: "each component of c is from -262144 to 262144". */
    private static void step7RatesUpToTheLimit() {
        for (int end : new int[] {-262144, 262144}) {
            dueFirstTick("with the limit on axis 0", 1000, 500, 8, end, 20, 30);
            dueFirstTick("with the limit on axis 1", 1000, 500, 8, 10, end, 30);
            dueFirstTick("with the limit on axis 2", 1000, 500, 8, 10, 20, end);
            dueFirstTick("with the limit on all axes", 1000, 500, 8, end, end, -end);
        }
    }

    /** Step 7: "each component of c is from -262144 to 262144": one beyond, and nothing turns. */
    private static void step7RatesBeyondTheLimit() {
        for (int axis = 0; axis < 3; axis++) {
            for (int beyond : new int[] {-900000, -262145, 262145, 900000}) {
                int[] c = {10, 20, 30};
                c[axis] = beyond;
                InertialReference r = new InertialReference();
                r.setHeading(8);
                correctTo(r, 1000, 500, c);
                r.run(1);
                Parts.dueEstimate("at a rate of " + beyond + " on axis " + axis, r, propagated(LEVEL, 1000, 500, c));
            }
        }
    }

    /** Step 7: a tick beyond the limit does not turn by what the filter has kept either; a slow one after it does. */
    private static void step7BeyondTheLimitNothingTurns() {
        InertialReference r = new InertialReference();
        r.setHeading(8);
        correctTo(r, 1000, 500, 160, 3200, -640);
        r.run(1);
        long[] f = filteredFirst(160, 3200, -640);
        long[] due = headed(propagated(LEVEL, 1000, 500, 160, 3200, -640), 1000, 500, f, 8);
        correctTo(r, 1000, 500, 160, 262145, -640);
        r.run(1);
        due = propagated(due, 1000, 500, 160, 262145, -640);
        Parts.dueEstimate("in a fast tick with a filter at work", r, due);
        correctTo(r, 1000, 500, (int) f[0], (int) f[1], (int) f[2]);
        r.run(1);
        due = propagated(due, 1000, 500, (int) f[0], (int) f[1], (int) f[2]);
        Parts.dueEstimate("in the slow tick after it", r, headed(due, 1000, 500, f, 8));
    }

    /** After ticks that must have left the filter at 0: the first tick from a level estimate. */
    private static void dueFilterAtZero(String what, InertialReference r) {
        correctTo(r, 1000, 500, 160, 3200, -640);
        r.recall(1);
        r.run(1);
        long[] due = propagated(LEVEL, 1000, 500, 160, 3200, -640);
        Parts.dueEstimate(what, r, headed(due, 1000, 500, filteredFirst(160, 3200, -640), 8));
    }

    /** Step 7: "each component of c is from -262144 to 262144": one beyond, and no component of f increases. */
    private static void step7BeyondTheLimitTheFilterStays() {
        for (int axis = 0; axis < 3; axis++) {
            int[] c = {200000, -200000, 200000};
            c[axis] = 262145;
            InertialReference r = new InertialReference();
            r.store(1);
            r.setHeading(8);
            correctTo(r, 1000, 500, c);
            r.run(10);
            dueFilterAtZero("after fast ticks on axis " + axis, r);
        }
    }

    /** Step 7: "the earth rate is not (0, 0, 0)": where it is, nothing turns and no component of f increases. */
    private static void step7WithoutEarthNothingIsDone() {
        InertialReference r = new InertialReference();
        r.store(1);
        r.setHeading(8);
        correctTo(r, 0, 0, 50000, -60000, 70000);
        r.run(1);
        Parts.dueEstimate("without earth", r, propagated(LEVEL, 0, 0, 50000, -60000, 70000));
        r.run(10);
        dueFilterAtZero("after ticks without earth", r);
    }

    /** Step 7: "each component f of the filtered vector increases by (c - f) >> 4", rounded down. */
    private static void step7FilterIsRoundedDown() {
        int[][] rates = {{-1, 15, 16}, {-16, -17, 1}, {17, -1, -15}, {100, -100, 0}, {0, 0, 0}, {-9, 9, -8}};
        InertialReference r = new InertialReference();
        r.setHeading(5);
        long[] due = LEVEL;
        long[] f = {0, 0, 0};
        for (int[] c : rates) {
            correctTo(r, 3, -4, c);
            r.run(1);
            for (int k = 0; k < 3; k++) {
                f[k] += (c[k] - f[k]) >> 4;
            }
            due = headed(propagated(due, 3, -4, c), 3, -4, f, 5);
            Parts.dueEstimate("with a slow filter", r, due);
        }
    }

    /** Step 7: "/ E" rounds down: (-3 << 20) / 9 is -349526, and (3 << 20) / 9 is 349525; gain 7 doubles them. */
    private static void step7QuotientIsRoundedDown() {
        InertialReference r = new InertialReference();
        r.setHeading(7);
        correctTo(r, 3, 0, 3, 16, 0);
        r.run(1);
        long[] before = propagated(LEVEL, 3, 0, 3, 16, 0);
        Parts.dueEstimate("with a quotient below 0", r, Model.turnedParts(before, 0, 0, -699052, true));
        InertialReference above = new InertialReference();
        above.setHeading(7);
        correctTo(above, 3, 0, 3, -16, 0);
        above.run(1);
        before = propagated(LEVEL, 3, 0, 3, -16, 0);
        // Step 5 has turned e to (3, 0, -1), so that x turns too, by (1 << 20) / 9.
        Parts.dueEstimate("with a quotient above 0", above, Model.turnedParts(before, 233016, 0, 699050, true));
    }

    /** Step 7: "limited to the range -16777216 to 16777216", whose ends a north of 800 and an f of 100 reach just so. */
    private static void step7TurnsUpToTheLimit() {
        for (int sign = -1; sign <= 1; sign += 2) {
            int[] c = {800, sign * 1600, 0};
            long[] before = propagated(LEVEL, 800, 0, c);
            Check.due("the turn at the limit", headingTurns(before, 800, 0, filteredFirst(c), 1)[2], -sign * MOST_TURN);
            dueFirstTick("turned by just the limit", 800, 0, 1, c);
        }
    }

    /** Step 7: "each limited to the range -16777216 to 16777216": by a step more, and by far, on each axis alone. */
    private static void step7TurnsBeyondTheLimit() {
        for (int sign = -1; sign <= 1; sign += 2) {
            for (int rate : new int[] {1616, 200000}) {
                int[] c = {800, sign * rate, 0};
                long[] before = propagated(LEVEL, 800, 0, c);
                InertialReference r = new InertialReference();
                r.setHeading(1);
                correctTo(r, 800, 0, c);
                r.run(1);
                long[] turns = headingTurns(before, 800, 0, filteredFirst(c), 1);
                Check.holds("a turn beyond the limit", Math.abs(turns[2]) > MOST_TURN);
                Parts.dueEstimate("turned beyond the limit about z", r,
                        Model.turnedParts(before, turns[0], turns[1], -sign * MOST_TURN, true));
            }
            dueFirstTick("turned beyond the limit about y", 800, 0, 1, 800, 0, sign * 200000);
            dueFirstTick("turned beyond the limit about x", 0, 800, 1, 0, sign * 200000, 800);
            dueFirstTick("turned beyond the limit about all", 700, 600, 1, -sign * 90000, sign * 200000, sign * 100000);
        }
    }

    /** Step 7: ">> gain, each limited": what a great gain brings back into the range is not limited. */
    private static void step7LimitComesAfterTheGain() {
        int[] c = {800, 160000, 0};
        long[] before = propagated(LEVEL, 800, 0, c);
        long turn = headingTurns(before, 800, 0, filteredFirst(c), 12)[2];
        Check.holds("in the range after the gain: " + turn, turn > -MOST_TURN && turn << 12 < -MOST_TURN << 5);
        dueFirstTick("with a limit after the gain", 800, 0, 12, c);
    }

    /** Step 7: "as by method 1", whatever the method of step 5 is. */
    private static void step7AsByMethod1() {
        int[] c = {800, 200000, -100000};
        for (int method = 0; method <= 2; method++) {
            InertialReference r = new InertialReference();
            r.setMethod(method);
            r.setHeading(1);
            correctTo(r, 800, 0, c);
            r.run(1);
            long[] before = Model.turnedParts(LEVEL, 0, 200000, -100000, method != 0);
            Parts.dueEstimate("beside method " + method, r, headed(before, 800, 0, filteredFirst(c), 1));
        }
    }

    /** Step 7 comes after step 6: its e is that of the levelled attitude. */
    private static void step7AfterLevelling() {
        int[] c = {20000, -3000, 30000};
        InertialReference r = new InertialReference();
        r.setAccelerometer(1, 10000000);
        r.setLevelling(1);
        r.setHeading(1);
        correctTo(r, 20000, 30000, c);
        r.run(1);
        long[] due = propagated(LEVEL, 20000, 30000, c);
        long[] up = Model.inBody(due, 0, 0, -ONE);
        // The readings are (0, 10000000, -ONE).
        due = Model.turnedParts(due, (10000000 * up[2] + ONE * up[1]) >> 29, (-ONE * up[0]) >> 29,
                (-10000000 * up[0]) >> 29, true);
        Parts.dueEstimate("levelled, then turned north", r, headed(due, 20000, 30000, filteredFirst(c), 1));
    }

    /** Step 8: "its remaining number of ticks decreases by 1. If it becomes 0, the calibration ends". */
    private static void step8EndsWithItsLastTick() {
        InertialReference r = new InertialReference();
        r.setGyro(0, 300, 0, 0, 0);
        r.startCalibration(3);
        for (int left = 2; left >= 1; left--) {
            r.run(1);
            Check.due("ticks left", r.calibrationLeft(), left);
            Check.due("no estimate yet", r.biasEstimate(0), 0);
            Check.due("a second start", r.startCalibration(1), -4);
        }
        r.run(1);
        Check.due("ticks left at the end", r.calibrationLeft(), 0);
        Check.due("the estimate", r.biasEstimate(0), 300);
        r.setGyro(0, 500, 0, 0, 0);
        r.run(5);
        Check.due("ticks left behind the end", r.calibrationLeft(), 0);
        Check.due("the estimate stays", r.biasEstimate(0), 300);
        Check.due("a second start", r.startCalibration(1), 0);
    }

    /** Step 8: "the bias estimate of each axis becomes": behind step 5, so that the next tick is its first. */
    private static void step8OldEstimateInTheLastTick() {
        InertialReference r = new InertialReference();
        r.setGyro(0, 3000, 0, 0, 0);
        r.startCalibration(1);
        r.run(1);
        Check.due("the last tick still turns", r.errorAngle(), 3000);
        r.run(1);
        Check.due("the next tick does not", r.errorAngle(), 3000);
    }

    /** Step 8: "its sum / (number of ticks of the calibration)", rounded down. */
    private static void step8MeanIsRoundedDown() {
        int[] sums = {-7, -6, -4, -3, -2, -1, 0, 1, 2, 3, 4, 6};
        int[] means = {-3, -2, -2, -1, -1, -1, 0, 0, 0, 1, 1, 2};
        for (int k = 0; k < sums.length; k++) {
            InertialReference r = new InertialReference();
            r.addSegment(1, sums[k], 0, -sums[k]);
            r.startCalibration(3);
            r.run(3);
            Check.due(sums[k] + " / 3", r.biasEstimate(0), means[k]);
            Check.due(-sums[k] + " / 3", r.biasEstimate(2), Math.floorDiv(-sums[k], 3));
        }
    }

    /** Step 8: "the earth rate, turned .. by the matrix of the estimated attitude": after this tick's turns. */
    private static void step8EarthByTheEstimatedAttitude() {
        InertialReference r = new InertialReference();
        r.turnEstimate(4000000, 0, 4000000);
        correctTo(r, 60000, -50000, 70000, -2000, 3000);
        r.setLevelling(2);
        r.setHeading(9);
        r.startCalibration(1);
        r.run(1);
        long[] after = Parts.ofEstimate(r);
        long[] earth = Model.inBody(after, 60000, 0, -50000);
        int[] c = {70000, -2000, 3000};
        for (int axis = 0; axis < 3; axis++) {
            Check.due("biasEstimate(" + axis + ") of a turned estimate", r.biasEstimate(axis), c[axis] - earth[axis]);
        }
    }

    /** Step 9: "The bin is marked as visited": by a tick, and by no temperature without one. */
    private static void step9BinOfATick() {
        InertialReference r = new InertialReference();
        r.setTemperature(-40);
        Check.due("without a tick", r.visitedBins(), 0);
        r.setTemperature(85);
        r.run(1);
        Check.due("with one", r.visitedBins(), 1);
        r.setTemperature(-40);
        Check.due("another temperature without a tick", r.visitedBins(), 1);
        r.run(1);
        Check.due("and with one", r.visitedBins(), 2);
    }

    /** Step 9: "The greatest error becomes the error angle": at the end of each tick, those inside a run too. */
    private static void step9GreatestErrorOfATick() {
        InertialReference once = thereAndBack();
        InertialReference often = thereAndBack();
        long most = 0;
        for (int k = 0; k < 6; k++) {
            often.run(1);
            most = Math.max(most, often.errorAngle());
            Check.due("greatestError after tick " + k, often.greatestError(), most);
        }
        once.run(6);
        Check.due("greatestError of one run", once.greatestError(), most);
        Check.holds("the error is small at the end, and was not", once.errorAngle() < 10 && most > 2990);
    }

    /** The gyro reads a hundredth too much: 1000 a tick there, and 1000 back. */
    private static InertialReference thereAndBack() {
        InertialReference r = new InertialReference();
        r.setGyro(0, 0, 10000, 0, 0);
        r.addSegment(3, 100000, 0, 0);
        r.addSegment(3, -100000, 0, 0);
        return r;
    }

    /** Step 9: "if this is greater": not where it is less. */
    private static void step9SmallerErrorIsNotTaken() {
        InertialReference r = new InertialReference();
        r.turnEstimate(5000, 0, 0);
        r.run(1);
        Check.due("the first tick's error", r.greatestError(), 5000);
        r.turnEstimate(-4000, 0, 0);
        r.run(1);
        Check.due("a smaller one", r.errorAngle(), 1000);
        Check.due("leaves the greatest", r.greatestError(), 5000);
        r.turnEstimate(4002, 0, 0);
        r.run(1);
        Check.due("a greater one is taken", r.greatestError(), 5002);
    }

    /** "The angle between two quaternions p and q": of p = truth and q = estimate, where 2 * 2 >> 28 is 0 or -1. */
    private static void angleFromTruthToEstimate() {
        dueErrorAngle(new int[] {4, 0, 0}, new int[] {0, 4, 0}, 6);
        dueErrorAngle(new int[] {0, 4, 0}, new int[] {4, 0, 0}, 4);
        dueErrorAngle(new int[] {0, 4, 0}, new int[] {0, 0, 4}, 6);
        dueErrorAngle(new int[] {0, 0, 4}, new int[] {0, 4, 0}, 4);
        dueErrorAngle(new int[] {0, 0, 4}, new int[] {4, 0, 0}, 6);
        dueErrorAngle(new int[] {4, 0, 0}, new int[] {0, 0, 4}, 4);
    }

    /** 6 is twice the root of 4 + 4 + 1, and 4 twice that of 4 + 4 + 0. */
    private static void dueErrorAngle(int[] truth, int[] estimate, long angle) {
        InertialReference r = new InertialReference();
        r.turnTruth(truth[0], truth[1], truth[2]);
        r.turnEstimate(estimate[0], estimate[1], estimate[2]);
        Check.due("errorAngle of truth " + truth[0] + ", " + truth[1] + ", " + truth[2] + " and estimate " + estimate[0]
                + ", " + estimate[1] + ", " + estimate[2], r.errorAngle(), angle);
    }

    /** "The angle between two quaternions p and q": of p = the stored attitude and q = the estimate. */
    private static void angleFromStoredToEstimate() {
        InertialReference r = new InertialReference();
        r.store(1);
        r.turnEstimate(4, 0, 0);
        r.store(2);
        r.recall(1);
        r.turnEstimate(0, 4, 0);
        r.store(3);
        Check.due("the root of 4 + 4 + 1", r.angleTo(2), 6);
        r.recall(2);
        Check.due("the root of 4 + 4 + 0", r.angleTo(3), 4);
    }

    /** Errors: "the one that is listed first": addSegment is INVALID before it is FULL. */
    private static void errorsInvalidBeforeFull() {
        Refused.whenBusy("addSegment: a wrong one to a full script", -2, r -> r.addSegment(0, 5, 6, 7));
        Refused.whenBusy("addSegment: a wrong rate to a full script", -2, r -> r.addSegment(1, 5, 6, 4000001));
        Refused.whenBusy("addSegment: a right one to a full script", -3, r -> r.addSegment(1, 5, 6, 7));
    }

    /** Errors: "the one that is listed first": startCalibration is INVALID before it is BUSY. */
    private static void errorsInvalidBeforeBusy() {
        Refused.whenBusy("startCalibration: too short beside another", -2, r -> r.startCalibration(0));
        Refused.whenBusy("startCalibration: too long beside another", -2, r -> r.startCalibration(1001));
        Refused.whenBusy("startCalibration: a right one beside another", -4, r -> r.startCalibration(1));
    }

    /** Errors: "the one that is listed first": store is INVALID before it is FULL. */
    private static void errorsInvalidBeforeFullShelf() {
        Refused.whenBusy("store: a wrong number to a full shelf", -2, r -> r.store(1000));
        Refused.whenBusy("store: a number below 0 to a full shelf", -2, r -> r.store(-1));
        Refused.whenBusy("store: a right number to a full shelf", -3, r -> r.store(999));
    }
}
