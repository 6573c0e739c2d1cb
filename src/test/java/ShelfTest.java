/** Promises 34 to 39: stored attitudes, and reset. */
public final class ShelfTest {
    private static final int[] NO_NUMBERS = {-1, 1000, 8, Integer.MIN_VALUE, Integer.MAX_VALUE};

    public static void main(String[] args) {
        promise34Store();
        promise34Full();
        promise35Recall();
        promise36Forget();
        promise37AngleTo();
        promise38StoredNumber();
        promise39Reset();
        promise39ResetIsWhole();
        Check.end();
    }

    private static void promise34Store() {
        InertialReference r = new InertialReference();
        Check.due("store(0)", r.store(0), 1);
        Check.due("store(999)", r.store(999), 2);
        Check.due("store(0) again", r.store(0), 2);
        Check.due("store(1000)", r.store(1000), -2);
        Check.due("store(-1)", r.store(-1), -2);
        Check.due("store of the least int", r.store(Integer.MIN_VALUE), -2);
        Check.due("store of the greatest int", r.store(Integer.MAX_VALUE), -2);
        Check.due("stored after refused calls", r.store(1), 3);

        // The later attitude takes the place of the earlier one.
        r.turnEstimate(20000, 0, 0);
        r.store(0);
        Check.due("angleTo(0)", r.angleTo(0), 0);
        Check.holds("angleTo(999)", r.angleTo(999) > 19000);
    }

    private static void promise34Full() {
        InertialReference r = new InertialReference();
        for (int k = 0; k < 30; k++) {
            Check.due("store " + k, r.store(10 * k), k + 1);
        }
        r.turnEstimate(5000, 0, 0);
        Check.due("one too many", r.store(7), -3);
        Check.due("a wrong number when full", r.store(1000), -2);
        Check.due("a stored number when full", r.store(290), 30);
        Check.due("the refused one is not there", r.angleTo(7), -1);
        Check.due("the stored one is new", r.angleTo(290), 0);
        Check.due("the others are old", r.angleTo(280), 5000);
        Check.due("forget one", r.forget(0), 29);
        Check.due("store in its place", r.store(7), 30);
        Check.due("the new one is the last", r.storedNumber(29), 7);
        for (int k = 0; k < 29; k++) {
            Check.due("storedNumber(" + k + ")", r.storedNumber(k), 10 * (k + 1));
        }
    }

    private static void promise35Recall() {
        InertialReference r = new InertialReference();
        r.turnEstimate(400000, -300000, 200000);
        r.store(3);
        long[] then = Parts.ofEstimate(r);
        r.turnEstimate(-1000000, 5, 4000000);
        r.store(4);
        long[] later = Parts.ofEstimate(r);
        Check.due("recall(3)", r.recall(3), 0);
        Parts.dueEstimate("after recall(3)", r, then);
        Check.due("recall(4)", r.recall(4), 0);
        Parts.dueEstimate("after recall(4)", r, later);
        for (int number : NO_NUMBERS) {
            Check.due("recall(" + number + ")", r.recall(number), -1);
        }
        Parts.dueEstimate("after refused calls", r, later);
        Check.due("recall keeps it", r.recall(3), 0);
        r.turnEstimate(1000000, 0, 0);
        Check.due("turning the estimate leaves the stored one", r.recall(3), 0);
        Parts.dueEstimate("after the last recall", r, then);
        Check.due("recall turns no truth", r.truth(1), 0);
        // The matrix of the recalled attitude counts too.
        r.turnTruth(400000, -300000, 200000);
        Check.due("tiltError after recall", r.tiltError(), 0);
    }

    private static void promise36Forget() {
        InertialReference r = new InertialReference();
        Check.due("forget of none", r.forget(0), -1);
        for (int k = 0; k < 4; k++) {
            r.turnEstimate(10000, 0, 0);
            r.store(k);
        }
        for (int number : NO_NUMBERS) {
            Check.due("forget(" + number + ")", r.forget(number), -1);
        }
        long toThree = r.angleTo(2);
        Check.due("forget(1)", r.forget(1), 3);
        Check.due("forget(1) again", r.forget(1), -1);
        Check.due("angleTo(2) stays", r.angleTo(2), toThree);
        Check.due("angleTo(3) stays", r.angleTo(3), 0);
        Check.due("storedNumber(0)", r.storedNumber(0), 0);
        Check.due("storedNumber(1)", r.storedNumber(1), 2);
        Check.due("storedNumber(2)", r.storedNumber(2), 3);
        Check.due("forget the last", r.forget(3), 2);
        Check.due("forget the first", r.forget(0), 1);
        Check.due("forget the only one", r.forget(2), 0);
        Check.due("none is left", r.storedNumber(0), -1);
    }

    private static void promise37AngleTo() {
        InertialReference r = new InertialReference();
        r.store(5);
        Check.due("angleTo itself", r.angleTo(5), 0);
        r.turnEstimate(1000, 0, 0);
        Check.due("angleTo(5)", r.angleTo(5), 1000);
        for (int number : NO_NUMBERS) {
            Check.due("angleTo(" + number + ")", r.angleTo(number), -1);
        }
        // From the stored one to the estimate, as the error angle goes from the truth to the estimate.
        for (int k = 1; k <= 20; k++) {
            InertialReference both = new InertialReference();
            both.turnEstimate(777777 * (k % 4), -654321, 12345 * k);
            both.turnTruth(777777 * (k % 4), -654321, 12345 * k);
            both.store(1);
            both.turnEstimate(-1234567, 91 * k, 3456789);
            Check.due("angleTo and errorAngle " + k, both.angleTo(1), both.errorAngle());
        }
    }

    private static void promise38StoredNumber() {
        InertialReference r = new InertialReference();
        Check.due("storedNumber(0) of none", r.storedNumber(0), -1);
        r.store(50);
        r.store(20);
        r.store(90);
        r.store(50);
        dueNumbers("a number stored again keeps its place", r, 50, 20, 90);
        r.forget(50);
        dueNumbers("a forgotten number is gone", r, 20, 90);
        r.store(50);
        dueNumbers("a number stored anew comes last", r, 20, 90, 50);
        Check.due("storedNumber(-1)", r.storedNumber(-1), -1);
        Check.due("storedNumber(3)", r.storedNumber(3), -1);
        Check.due("storedNumber(30)", r.storedNumber(30), -1);
        Check.due("storedNumber of the least int", r.storedNumber(Integer.MIN_VALUE), -1);
        Check.due("storedNumber of the greatest int", r.storedNumber(Integer.MAX_VALUE), -1);
    }

    private static void promise39Reset() {
        InertialReference r = new InertialReference();
        Check.due("reset at first", r.reset(), 0);
        FirstState.due("after reset at first", r);
        r.run(200);
        r.run(13);
        Check.due("reset", r.reset(), 214);
        Check.due("reset again", r.reset(), 0);
        FirstState.due("after reset", r);
    }

    /** Everything is set before reset; behind it, a run with every part at work is that of a new object. */
    private static void promise39ResetIsWhole() {
        InertialReference used = new InertialReference();
        setEverything(used);
        used.reset();
        FirstState.due("after reset of everything", used);

        InertialReference again = new InertialReference();
        setEverything(again);
        again.reset();
        InertialReference fresh = new InertialReference();
        for (InertialReference r : new InertialReference[] {again, fresh}) {
            // The first turn vector and the first values of the filter show what was left.
            r.setMethod(2);
            r.addSegment(5, 200000, -100000, 50000);
            r.setEarthRate(300, 400);
            r.setHeading(7);
            r.setLevelling(6);
            r.startCalibration(5);
            r.run(8);
        }
        Parts.dueEstimate("after reset and a run", again, Parts.ofEstimate(fresh));
        for (int axis = 0; axis < 3; axis++) {
            Check.due("biasEstimate(" + axis + ") after reset", again.biasEstimate(axis), fresh.biasEstimate(axis));
        }
        Check.due("greatestError after reset", again.greatestError(), fresh.greatestError());

        // The earth's two rates, each alone.
        InertialReference earth = new InertialReference();
        earth.setEarthRate(5, 0);
        earth.reset();
        earth.setGyro(1, 1, 0, 0, 0);
        earth.run(1);
        Check.due("north after reset", earth.gyro(0), 0);
    }

    private static void setEverything(InertialReference r) {
        for (int axis = 0; axis < 3; axis++) {
            r.setGyro(axis, 100 + axis, 200, 30, 40);
            r.setAccelerometer(axis, 5000 + axis);
            for (int bin = -4; bin <= 8; bin++) {
                r.setCompensation(axis, bin, 10 * axis + bin + 100);
            }
        }
        r.setEarthRate(300, -400);
        r.setTemperature(61);
        r.setSeed(99);
        r.addSegment(300, 4000, 5000, 6000);
        r.addSegment(300, 4000, 5000, 6000);
        r.turnTruth(100000, 200000, 300000);
        r.turnEstimate(-100000, 200000, 300000);
        r.setMethod(2);
        r.setLevelling(3);
        r.setHeading(4);
        r.startCalibration(20);
        r.run(30);
        r.startCalibration(20);
        r.run(7);
        r.store(4);
        r.store(8);
    }

    private static void dueNumbers(String what, InertialReference r, int... numbers) {
        for (int k = 0; k < numbers.length; k++) {
            Check.due(what + ": storedNumber(" + k + ")", r.storedNumber(k), numbers[k]);
        }
        Check.due(what + ": behind the last", r.storedNumber(numbers.length), -1);
    }
}
