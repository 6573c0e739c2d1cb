/** Promises 15 to 25 at their edges: each test stands under the sentence that it holds. */
public final class EstimatorEdgesTest {
    private static final long ONE = 268435456L;
    private static final int INVALID = -2;
    private static final int BUSY = -4;
    private static final int TURN = 4000000;

    public static void main(String[] args) {
        promise15EachMethod();
        promise15AnotherMethod();
        promise16EachGain();
        promise16OutOfRange();
        promise17EachGain();
        promise17OutOfRange();
        promise17FilterBeginsAtZero();
        promise17FilterStaysAtAnotherGain();
        promise17RefusedGainKeepsTheFilter();
        promise18Shortest();
        promise18Longest();
        promise18OutOfRange();
        promise18Busy();
        promise18SumsBeginAtZero();
        promise19NoneRunning();
        promise20Axis();
        promise21Corners();
        promise21Values();
        promise21OutOfRange();
        promise21FullTable();
        promise21ValueInPlaceOfAnother();
        promise22NoValueIsZero();
        promise22Limits();
        promise22BeyondTheLimits();
        promise22EstimatesBecomeZero();
        promise22Counts();
        promise22Busy();
        promise22AfterACalibration();
        promise23NoValue();
        promise23AnyBin();
        promise23Axis();
        promise24Counts();
        promise24AnyBin();
        promise25Ends();
        promise25OutOfRange();
        Check.end();
    }

    /** Promise 15: "method: 0 to 2", and "Returns the previous method". */
    private static void promise15EachMethod() {
        InertialReference r = new InertialReference();
        int before = 1;
        for (int method : new int[] {0, 2, 1, 1, 2, 0, 0}) {
            Check.due("setMethod(" + method + ")", r.setMethod(method), before);
            before = method;
        }
    }

    /** Promise 15: "INVALID for another method". */
    private static void promise15AnotherMethod() {
        Refused.beyond("setMethod", 0, 2, INVALID, InertialReference::setMethod);
    }

    /** Promise 16: "gain: 1 to 20, or 0 to switch levelling off", and "Returns the previous gain". */
    private static void promise16EachGain() {
        InertialReference r = new InertialReference();
        int before = 0;
        for (int gain : new int[] {1, 20, 0, 0, 20, 1, 1}) {
            Check.due("setLevelling(" + gain + ")", r.setLevelling(gain), before);
            before = gain;
        }
    }

    /** Promise 16: "INVALID if gain is out of range". */
    private static void promise16OutOfRange() {
        Refused.beyond("setLevelling", 0, 20, INVALID, InertialReference::setLevelling);
    }

    /** Promise 17: "gain: 1 to 20, or 0 to switch it off", and "Returns the previous gain". */
    private static void promise17EachGain() {
        InertialReference r = new InertialReference();
        int before = 0;
        for (int gain : new int[] {1, 20, 0, 0, 20, 1, 1}) {
            Check.due("setHeading(" + gain + ")", r.setHeading(gain), before);
            before = gain;
        }
    }

    /** Promise 17: "INVALID if gain is out of range". */
    private static void promise17OutOfRange() {
        Refused.beyond("setHeading", 0, 20, INVALID, InertialReference::setHeading);
    }

    /** Ten ticks with the filter at work or not; the body stays at rest, and its estimate is put back to level. */
    private static InertialReference afterTenTicks(int gain) {
        InertialReference r = new InertialReference();
        r.store(1);
        r.setEarthRate(1000, 500);
        r.setGyro(1, 90000, 0, 0, 0);
        r.setHeading(gain);
        r.run(10);
        r.recall(1);
        return r;
    }

    private static boolean sameEstimate(InertialReference a, InertialReference b) {
        boolean same = true;
        for (int k = 0; k <= 3; k++) {
            same = same && a.estimate(k) == b.estimate(k);
        }
        return same;
    }

    /** Promise 17: "If it was 0 and becomes greater, the filtered vector becomes 0": at each gain. */
    private static void promise17FilterBeginsAtZero() {
        for (int gain : new int[] {1, 8, 20}) {
            InertialReference used = afterTenTicks(8);
            InertialReference unused = afterTenTicks(0);
            used.setHeading(0);
            used.setHeading(gain);
            unused.setHeading(gain);
            used.run(1);
            unused.run(1);
            Check.holds("a filter that was used begins at 0 at gain " + gain, sameEstimate(used, unused));
        }
    }

    /** Promise 17: "If it was 0 and becomes greater": from one gain to another, or to the same, the filter stays. */
    private static void promise17FilterStaysAtAnotherGain() {
        InertialReference straight = afterTenTicks(8);
        InertialReference around = afterTenTicks(8);
        InertialReference same = afterTenTicks(8);
        InertialReference anew = afterTenTicks(0);
        around.setHeading(1);
        around.setHeading(20);
        around.setHeading(8);
        same.setHeading(8);
        anew.setHeading(8);
        for (InertialReference r : new InertialReference[] {straight, around, same, anew}) {
            r.run(1);
        }
        Check.holds("other gains leave the filter", sameEstimate(straight, around));
        Check.holds("the same gain leaves the filter", sameEstimate(straight, same));
        Check.holds("an empty filter would show", !sameEstimate(straight, anew));
    }

    /** Promise 17: a refused gain neither switches heading off nor empties the filter. */
    private static void promise17RefusedGainKeepsTheFilter() {
        for (int gain : new int[] {-1, 21}) {
            InertialReference straight = afterTenTicks(8);
            InertialReference refused = afterTenTicks(8);
            Check.due("setHeading(" + gain + ")", refused.setHeading(gain), INVALID);
            straight.run(1);
            refused.run(1);
            Check.holds("the filter after setHeading(" + gain + ")", sameEstimate(straight, refused));
            Check.due("the gain after setHeading(" + gain + ")", refused.setHeading(0), 8);
        }
    }

    /** Promise 18: "ticks: number of ticks, 1 to 1000": the shortest. */
    private static void promise18Shortest() {
        InertialReference r = new InertialReference();
        r.addSegment(1, 70, -80, 90);
        Check.due("startCalibration(1)", r.startCalibration(1), 0);
        r.run(200);
        dueBiases("of one tick", r, 70, -80, 90);
    }

    /** Promise 18: "ticks: number of ticks, 1 to 1000": the longest, whose sums take all 1000 ticks and no more. */
    private static void promise18Longest() {
        InertialReference r = new InertialReference();
        r.addSegment(999, 4000000, -4000000, 1000);
        r.addSegment(1, 0, 0, 2000);
        r.addSegment(1, 4000000, 4000000, 4000000);
        Check.due("startCalibration(1000)", r.startCalibration(1000), 0);
        for (int k = 0; k < 4; k++) {
            r.run(200);
        }
        r.run(199);
        Check.due("ticks left after 999", r.calibrationLeft(), 1);
        dueBiases("after 999 ticks", r, 0, 0, 0);
        r.run(2);
        Check.due("ticks left after 1001", r.calibrationLeft(), 0);
        dueBiases("of 1000 ticks", r, 3996000, -3996000, 1001);
    }

    /** Promise 18: "INVALID if ticks is out of range". */
    private static void promise18OutOfRange() {
        Refused.beyond("startCalibration", 1, 1000, INVALID, InertialReference::startCalibration);
    }

    /** Promise 18: "BUSY if a calibration is running", which goes on as it was: its sums and its number of ticks. */
    private static void promise18Busy() {
        Refused.whenBusy("startCalibration: BUSY", BUSY, r -> r.startCalibration(1));
        Refused.whenBusy("startCalibration: BUSY", BUSY, r -> r.startCalibration(1000));
        InertialReference r = new InertialReference();
        r.addSegment(2, 900, 0, 0);
        r.startCalibration(4);
        r.run(2);
        Check.due("a second start", r.startCalibration(2), BUSY);
        r.run(2);
        dueBiases("of four ticks", r, 450, 0, 0);
    }

    /** Promise 18: "Starts a calibration with sums of 0." */
    private static void promise18SumsBeginAtZero() {
        InertialReference r = new InertialReference();
        r.addSegment(2, 5000, -6000, 7000);
        r.startCalibration(2);
        r.run(2);
        dueBiases("of the first calibration", r, 5000, -6000, 7000);
        r.startCalibration(2);
        r.run(2);
        dueBiases("of a calibration at rest", r, 0, 0, 0);
    }

    /** Promise 19: "0 if none is running": none yet, one that has ended, and none after reset. */
    private static void promise19NoneRunning() {
        InertialReference r = new InertialReference();
        Check.due("before the first", r.calibrationLeft(), 0);
        r.startCalibration(3);
        Check.due("at its start", r.calibrationLeft(), 3);
        r.run(3);
        Check.due("after its end", r.calibrationLeft(), 0);
        r.startCalibration(3);
        r.run(1);
        r.reset();
        Check.due("after reset", r.calibrationLeft(), 0);
        r.run(3);
        Check.due("ticks after reset", r.calibrationLeft(), 0);
    }

    /** Promise 20: "axis: 0 to 2", and "0 if axis is out of range". */
    private static void promise20Axis() {
        InertialReference r = new InertialReference();
        r.addSegment(1, 7, 8, 9);
        r.startCalibration(1);
        r.run(1);
        dueBiases("of each axis", r, 7, 8, 9);
        for (int axis : new int[] {-1, 3, 4, Integer.MIN_VALUE, Integer.MAX_VALUE}) {
            Check.due("biasEstimate(" + axis + ")", r.biasEstimate(axis), 0);
        }
        Refused.beyond("biasEstimate", 0, 2, 0, InertialReference::biasEstimate);
    }

    /** Promise 21: "axis: 0 to 2" and "bin: -4 to 8", at the corners of the table. */
    private static void promise21Corners() {
        InertialReference r = new InertialReference();
        Check.due("setCompensation(0, -4)", r.setCompensation(0, -4, 1), 1);
        Check.due("setCompensation(0, 8)", r.setCompensation(0, 8, 2), 2);
        Check.due("setCompensation(2, -4)", r.setCompensation(2, -4, 3), 3);
        Check.due("setCompensation(2, 8)", r.setCompensation(2, 8, 4), 4);
        Check.due("compensation(0, -4)", r.compensation(0, -4), 1);
        Check.due("compensation(0, 8)", r.compensation(0, 8), 2);
        Check.due("compensation(2, -4)", r.compensation(2, -4), 3);
        Check.due("compensation(2, 8)", r.compensation(2, 8), 4);
        Check.due("compensation(1, -4) between them", r.compensation(1, -4), 0);
        Check.due("compensation(1, 8) between them", r.compensation(1, 8), 0);
    }

    /** Promise 21: "value: -1000000 to 1000000". */
    private static void promise21Values() {
        for (int value : new int[] {-1000000, 1000000}) {
            InertialReference r = new InertialReference();
            Check.due("setCompensation to " + value, r.setCompensation(1, 2, value), 1);
            Check.due("compensation", r.compensation(1, 2), value);
            r.startCalibration(1);
            r.run(1);
            dueBiases("with a compensation of " + value, r, 0, -value, 0);
        }
    }

    /** Promise 21: "INVALID if a parameter is out of range". */
    private static void promise21OutOfRange() {
        Refused.beyond("setCompensation: axis", 0, 2, INVALID, (r, v) -> r.setCompensation(v, 3, 99));
        Refused.beyond("setCompensation: bin", -4, 8, INVALID, (r, v) -> r.setCompensation(0, v, 99));
        Refused.beyond("setCompensation: value", -1000000, 1000000, INVALID, (r, v) -> r.setCompensation(2, 3, v));
    }

    /** Promise 21: "the new number of values in the table": from 1 up to the full table's 39, which takes new values. */
    private static void promise21FullTable() {
        InertialReference r = new InertialReference();
        for (int place = 0; place < 39; place++) {
            Check.due("value " + place, r.setCompensation(place % 3, place / 3 - 4, 1000 + place), place + 1);
        }
        for (int place = 0; place < 39; place++) {
            Check.due("compensation " + place, r.compensation(place % 3, place / 3 - 4), 1000 + place);
            Check.due("value " + place + " again", r.setCompensation(place % 3, place / 3 - 4, -place), 39);
        }
    }

    /** Promise 21: "the new number of values", where a value of 0 is one, and one in place of another is none more. */
    private static void promise21ValueInPlaceOfAnother() {
        InertialReference r = new InertialReference();
        Check.due("a value of 0", r.setCompensation(0, 2, 0), 1);
        Check.due("another in its place", r.setCompensation(0, 2, 5), 1);
        Check.due("0 in its place", r.setCompensation(0, 2, 0), 1);
        Check.due("the same bin of another axis", r.setCompensation(1, 2, 0), 2);
        Check.due("another bin of the same axis", r.setCompensation(0, 3, 0), 3);
    }

    /** Promise 22: "its present value (0 if there is none) plus the bias estimate". */
    private static void promise22NoValueIsZero() {
        InertialReference r = estimating(300, -400, 500);
        r.setCompensation(0, 3, 7);
        r.setCompensation(1, 2, 10);
        r.setCompensation(2, 2, 9);
        r.forgetBin(2);
        Check.due("learnCompensation", r.learnCompensation(), 4);
        dueValues("where there was none", r, 300, -400, 500);
        Check.due("another bin's value stays", r.compensation(0, 3), 7);
        r = estimating(300, -400, 500);
        r.setCompensation(0, 2, 1);
        r.setCompensation(1, 2, -2);
        Check.due("learnCompensation beside two values", r.learnCompensation(), 3);
        dueValues("where there was one", r, 301, -402, 500);
    }

    /** Promise 22: "limited to the range -1000000 to 1000000": up to the ends themselves. */
    private static void promise22Limits() {
        InertialReference r = estimating(400000, -400000, 1);
        r.setCompensation(0, 2, 600000);
        r.setCompensation(1, 2, -600000);
        r.setCompensation(2, 2, 999998);
        r.learnCompensation();
        dueValues("up to the limits", r, 1000000, -1000000, 999999);
    }

    /** Promise 22: "limited to the range -1000000 to 1000000": by one beyond, and by far. */
    private static void promise22BeyondTheLimits() {
        InertialReference r = estimating(400000, -400000, 4000000);
        r.setCompensation(0, 2, 600001);
        r.setCompensation(1, 2, -600001);
        r.setCompensation(2, 2, 1000000);
        r.learnCompensation();
        dueValues("beyond the limits", r, 1000000, -1000000, 1000000);
        InertialReference far = estimating(-4000000, 4000000, -1000001);
        far.learnCompensation();
        dueValues("far beyond the limits", far, -1000000, 1000000, -1000000);
        dueBiases("what lies beyond is lost", far, 0, 0, 0);
    }

    /** Promise 22: "the bias estimates become 0", so that learning again adds nothing. */
    private static void promise22EstimatesBecomeZero() {
        InertialReference r = estimating(300, -400, 500);
        dueBiases("before learning", r, 300, -400, 500);
        r.learnCompensation();
        dueBiases("after learning", r, 0, 0, 0);
        r.learnCompensation();
        dueValues("after learning again", r, 300, -400, 500);
    }

    /** Promise 22: "Returns the new number of values in the table": three values a bin, be they 0, up to 39. */
    private static void promise22Counts() {
        InertialReference r = new InertialReference();
        for (int bin = -4; bin <= 8; bin++) {
            r.setTemperature(10 * bin);
            Check.due("learning in bin " + bin, r.learnCompensation(), 3 * (bin + 5));
            Check.due("learning in bin " + bin + " again", r.learnCompensation(), 3 * (bin + 5));
        }
        Check.due("values in the last bin", r.forgetBin(8), 3);
    }

    /** Promise 22: "BUSY if a calibration is running". */
    private static void promise22Busy() {
        Refused.whenBusy("learnCompensation: BUSY", BUSY, InertialReference::learnCompensation);
        InertialReference r = estimating(300, -400, 500);
        r.startCalibration(1);
        Check.due("learnCompensation before the first tick", r.learnCompensation(), BUSY);
        dueValues("after the refusal", r, 0, 0, 0);
        dueBiases("after the refusal", r, 300, -400, 500);
        Check.due("values after the refusal", r.forgetBin(2), 0);
    }

    /** Promise 22: "BUSY if a calibration is running", and not once it has ended, or was ended by reset. */
    private static void promise22AfterACalibration() {
        InertialReference r = new InertialReference();
        r.startCalibration(2);
        r.run(1);
        Check.due("in its last tick but one", r.learnCompensation(), BUSY);
        r.run(1);
        Check.due("at its end", r.learnCompensation(), 3);
        r.startCalibration(2);
        r.reset();
        Check.due("after reset", r.learnCompensation(), 3);
    }

    /** Promise 23: "0 if there is none": never set, forgotten, and after reset. */
    private static void promise23NoValue() {
        InertialReference r = new InertialReference();
        Check.due("never set", r.compensation(1, 2), 0);
        r.setCompensation(1, 2, 5);
        Check.due("set", r.compensation(1, 2), 5);
        Check.due("on the axis beside", r.compensation(0, 2), 0);
        Check.due("in the bin beside", r.compensation(1, 3), 0);
        r.forgetBin(2);
        Check.due("forgotten", r.compensation(1, 2), 0);
        r.setCompensation(1, 2, 5);
        r.reset();
        Check.due("after reset", r.compensation(1, 2), 0);
    }

    /** Promise 23: "bin: any int", and "0 if there is none". */
    private static void promise23AnyBin() {
        InertialReference full = new InertialReference();
        for (int place = 0; place < 39; place++) {
            full.setCompensation(place % 3, place / 3 - 4, 1000 + place);
        }
        for (int bin : new int[] {-5, -17, 9, 13, 22, 35, 100, -100, Integer.MIN_VALUE, Integer.MAX_VALUE}) {
            for (int axis = 0; axis <= 2; axis++) {
                Check.due("compensation(" + axis + ", " + bin + ")", full.compensation(axis, bin), 0);
            }
        }
        Refused.beyond("compensation: bin", -4, 8, 0, (r, v) -> r.compensation(1, v));
    }

    /** Promise 23: "axis: 0 to 2": beyond there is no value. */
    private static void promise23Axis() {
        Refused.beyond("compensation: axis", 0, 2, 0, (r, v) -> r.compensation(v, 3));
    }

    /** Promise 24: "Returns how many values were removed": 0 to 3, of this bin alone. */
    private static void promise24Counts() {
        InertialReference r = new InertialReference();
        r.setCompensation(0, 1, 5);
        r.setCompensation(0, 2, 6);
        r.setCompensation(2, 2, 0);
        for (int axis = 0; axis <= 2; axis++) {
            r.setCompensation(axis, 3, 10 + axis);
        }
        Check.due("forgetBin of none", r.forgetBin(0), 0);
        Check.due("forgetBin of one", r.forgetBin(1), 1);
        Check.due("forgetBin of two", r.forgetBin(2), 2);
        Check.due("forgetBin of two again", r.forgetBin(2), 0);
        for (int axis = 0; axis <= 2; axis++) {
            Check.due("the bin beside stays", r.compensation(axis, 3), 10 + axis);
        }
        Check.due("forgetBin of three", r.forgetBin(3), 3);
        Check.due("a value set again is the first", r.setCompensation(0, 3, 0), 1);
    }

    /** Promise 24: "bin: any int": where there are no values, nothing changes. */
    private static void promise24AnyBin() {
        Refused.beyond("forgetBin", -4, 8, 0, InertialReference::forgetBin);
        Refused.always("forgetBin of an empty bin", 0, r -> r.forgetBin(5));
        InertialReference r = new InertialReference();
        Check.due("the first bin", r.setCompensation(1, -4, 5), 1);
        Check.due("forgetBin(-4)", r.forgetBin(-4), 1);
        Check.due("the last bin", r.setCompensation(1, 8, 5), 1);
        Check.due("forgetBin(8)", r.forgetBin(8), 1);
    }

    /** Promise 25: "x: -4000000 to 4000000", and so y and z. */
    private static void promise25Ends() {
        for (int end : new int[] {-TURN, TURN}) {
            dueTurn(end, 0, 0);
            dueTurn(0, end, 0);
            dueTurn(0, 0, end);
            dueTurn(end, end, -end);
        }
        dueTurn(0, 0, 0);
    }

    /** The method is one of the ticks, and makes no difference here. */
    private static void dueTurn(int x, int y, int z) {
        for (int method = 0; method <= 2; method++) {
            InertialReference r = new InertialReference();
            r.setMethod(method);
            Check.due("turnEstimate", r.turnEstimate(x, y, z), 0);
            long[] due = Model.turnedParts(new long[] {ONE, 0, 0, 0}, x, y, z, true);
            Parts.dueEstimate("turned by " + x + ", " + y + ", " + z, r, due);
            Check.due("the truth stays", r.truth(0), ONE);
        }
    }

    /** Promise 25: "INVALID if a parameter is out of range". */
    private static void promise25OutOfRange() {
        Refused.beyond("turnEstimate: x", -TURN, TURN, INVALID, (r, v) -> r.turnEstimate(v, 60000, 70000));
        Refused.beyond("turnEstimate: y", -TURN, TURN, INVALID, (r, v) -> r.turnEstimate(60000, v, 70000));
        Refused.beyond("turnEstimate: z", -TURN, TURN, INVALID, (r, v) -> r.turnEstimate(60000, 70000, v));
    }

    /** An object at 25 degrees with these bias estimates and an empty table. */
    private static InertialReference estimating(int x, int y, int z) {
        InertialReference r = new InertialReference();
        r.addSegment(1, x, y, z);
        r.startCalibration(1);
        r.run(1);
        return r;
    }

    private static void dueBiases(String what, InertialReference r, long x, long y, long z) {
        Check.due("biasEstimate(0) " + what, r.biasEstimate(0), x);
        Check.due("biasEstimate(1) " + what, r.biasEstimate(1), y);
        Check.due("biasEstimate(2) " + what, r.biasEstimate(2), z);
    }

    private static void dueValues(String what, InertialReference r, long x, long y, long z) {
        Check.due("compensation(0, 2) " + what, r.compensation(0, 2), x);
        Check.due("compensation(1, 2) " + what, r.compensation(1, 2), y);
        Check.due("compensation(2, 2) " + what, r.compensation(2, 2), z);
    }
}
