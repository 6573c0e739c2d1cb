/** Promises 34 to 39 at their edges: each test stands under the sentence that it holds. */
public final class ShelfEdgesTest {
    private static final int NONE = -1;
    private static final int INVALID = -2;
    private static final int FULL = -3;
    private static final int[] NEVER_STORED = {-1, -2, 1, 5, 291, 300, 999, 1000, Integer.MIN_VALUE, Integer.MAX_VALUE};

    public static void main(String[] args) {
        promise34Numbers();
        promise34OutOfRange();
        promise34InPlace();
        promise34Full();
        promise34FullButInPlace();
        promise34RoomAgain();
        promise35None();
        promise35StoredIsKept();
        promise35Whole();
        promise36None();
        promise36Places();
        promise36Twice();
        promise37None();
        promise37NoAngle();
        promise38NoSuchIndex();
        promise38FullShelf();
        promise38OrderOfTheFirstTime();
        promise38SinceLastRemoved();
        promise39TimeBefore();
        promise39NothingIsStored();
        promise39FromABusyObject();
        Check.end();
    }

    private static InertialReference holding(int... numbers) {
        InertialReference r = new InertialReference();
        for (int number : numbers) {
            r.turnEstimate(10000, 0, 0);
            r.store(number);
        }
        return r;
    }

    private static InertialReference full() {
        InertialReference r = new InertialReference();
        for (int k = 0; k < 30; k++) {
            r.turnEstimate(2000, 0, 0);
            Check.due("store " + k, r.store(10 * k), k + 1);
        }
        return r;
    }

    private static void dueNumbers(String what, InertialReference r, int... numbers) {
        for (int k = 0; k < numbers.length; k++) {
            Check.due(what + ": storedNumber(" + k + ")", r.storedNumber(k), numbers[k]);
        }
        Check.due(what + ": behind the last", r.storedNumber(numbers.length), NONE);
    }

    /** The turns lose a few of these units in rounding. */
    private static void dueAngle(String call, long got, long want) {
        Check.holds(call + " is about " + want + ": " + got, Math.abs(got - want) <= 20);
    }

    /** Promise 34: "number: 0 to 999". */
    private static void promise34Numbers() {
        InertialReference r = holding(0, 999);
        dueNumbers("the least and the greatest number", r, 0, 999);
        Check.due("recall(0)", r.recall(0), 0);
        dueAngle("angleTo(999)", r.angleTo(999), 10000);
    }

    /** Promise 34: "INVALID if number is out of range". */
    private static void promise34OutOfRange() {
        Refused.beyond("store", 0, 999, INVALID, InertialReference::store);
    }

    /** Promise 34: "in place of the one that is stored there". */
    private static void promise34InPlace() {
        InertialReference r = holding(7, 8);
        r.turnEstimate(30000, 0, 0);
        Check.due("store(7) again", r.store(7), 2);
        Check.due("angleTo(7)", r.angleTo(7), 0);
        dueAngle("angleTo(8)", r.angleTo(8), 30000);
        dueNumbers("stored in place", r, 7, 8);
    }

    /** Promise 34: "FULL if 30 attitudes are stored and none of them under this number". */
    private static void promise34Full() {
        InertialReference r = full();
        Check.due("the 31st", r.store(1), FULL);
        Check.due("it is not there", r.angleTo(1), NONE);
        Check.due("the 31st again", r.store(1), FULL);
        for (int number : new int[] {1, 9, 291, 300, 999}) {
            Refused.whenBusy("store(" + number + ") when full", FULL, b -> b.store(number));
        }
    }

    /** Promise 34: "FULL if .. none of them under this number": one that is there is taken. */
    private static void promise34FullButInPlace() {
        InertialReference r = full();
        for (int number : new int[] {0, 150, 290}) {
            r.turnEstimate(2000, 0, 0);
            Check.due("store(" + number + ") when full", r.store(number), 30);
            Check.due("angleTo(" + number + ") when full", r.angleTo(number), 0);
        }
        Check.due("the first stays the first", r.storedNumber(0), 0);
        Check.due("the last stays the last", r.storedNumber(29), 290);
    }

    /** Promise 34: "At most 30 attitudes are stored": after one is removed there is room for one. */
    private static void promise34RoomAgain() {
        for (int number : new int[] {0, 150, 290}) {
            InertialReference r = full();
            Check.due("forget(" + number + ")", r.forget(number), 29);
            Check.due("store in its place", r.store(5), 30);
            Check.due("one more", r.store(6), FULL);
            Check.due("the new one is the last", r.storedNumber(29), 5);
            Check.due("its angle", r.angleTo(5), 0);
        }
    }

    /** Promise 35: "number: any int", and "NONE if no attitude is stored under this number". */
    private static void promise35None() {
        for (int number : NEVER_STORED) {
            Refused.always("recall(" + number + ")", NONE, r -> r.recall(number));
        }
        InertialReference r = holding(7, 8);
        r.forget(7);
        long before = r.estimate(1);
        Check.due("recall of a removed one", r.recall(7), NONE);
        Check.due("estimate(1) after the refusal", r.estimate(1), before);
    }

    /** Promise 35: "Replaces the estimated attitude by a stored one", which stays stored. */
    private static void promise35StoredIsKept() {
        InertialReference r = holding(7, 8);
        Check.due("recall(7)", r.recall(7), 0);
        Check.due("angleTo(7)", r.angleTo(7), 0);
        r.turnEstimate(50000, 60000, 70000);
        Check.due("recall(7) again", r.recall(7), 0);
        dueAngle("angleTo(8) from there", r.angleTo(8), 10000);
        dueNumbers("both are still there", r, 7, 8);
    }

    /** Promise 35: all four parts come back, those below 0 too, and the matrix with them. */
    private static void promise35Whole() {
        InertialReference r = new InertialReference();
        for (int k = 0; k < 100; k++) {
            r.turnEstimate(4000000, -3000000, 2000000);
        }
        r.store(7);
        long[] parts = Parts.ofEstimate(r);
        long turned = r.toBody(100000000, 200000000, -50000000, 1);
        for (int k = 0; k < 50; k++) {
            r.turnEstimate(4000000, 4000000, 4000000);
        }
        Check.due("recall(7)", r.recall(7), 0);
        Parts.dueEstimate("after recall", r, parts);
        Check.due("toBody", r.toBody(100000000, 200000000, -50000000, 1), turned);
        Check.holds("with a part below 0", parts[2] < 0);
    }

    /** Promise 36: "number: any int", and "NONE if no attitude is stored under this number". */
    private static void promise36None() {
        for (int number : NEVER_STORED) {
            Refused.always("forget(" + number + ")", NONE, r -> r.forget(number));
        }
    }

    /** Promise 36: "Returns how many attitudes are left": the first, the last, one between, and the only one. */
    private static void promise36Places() {
        InertialReference r = holding(4, 3, 2, 1, 0);
        Check.due("forget the first", r.forget(4), 4);
        dueNumbers("without the first", r, 3, 2, 1, 0);
        Check.due("forget the last", r.forget(0), 3);
        dueNumbers("without the last", r, 3, 2, 1);
        Check.due("forget the one between", r.forget(2), 2);
        dueNumbers("without the one between", r, 3, 1);
        dueAngle("angleTo(3)", r.angleTo(3), 30000);
        dueAngle("angleTo(1)", r.angleTo(1), 10000);
        Check.due("forget one of two", r.forget(3), 1);
        Check.due("forget the only one", r.forget(1), 0);
        dueNumbers("without any", r);
    }

    /** Promise 36: "NONE if no attitude is stored under this number": none is, once it was removed. */
    private static void promise36Twice() {
        InertialReference r = holding(7, 8);
        Check.due("forget(7)", r.forget(7), 1);
        Check.due("forget(7) again", r.forget(7), NONE);
        dueNumbers("after both", r, 8);
        Check.due("store(7) again", r.store(7), 2);
    }

    /** Promise 37: "number: any int", and "NONE if no attitude is stored under this number". */
    private static void promise37None() {
        for (int number : NEVER_STORED) {
            Refused.always("angleTo(" + number + ")", NONE, r -> r.angleTo(number));
        }
        InertialReference r = holding(7, 8);
        r.forget(8);
        Check.due("angleTo of a removed one", r.angleTo(8), NONE);
    }

    /** Promise 37: "Returns the angle", which is 0 at the stored attitude itself and no refusal. */
    private static void promise37NoAngle() {
        InertialReference r = holding(0);
        Check.due("angleTo(0)", r.angleTo(0), 0);
        r.turnTruth(500000, 0, 0);
        Check.due("angleTo(0) beside another truth", r.angleTo(0), 0);
        r.turnEstimate(2, 0, 0);
        Check.due("the least angle", r.angleTo(0), 2);
    }

    /** Promise 38: "k: index in this order, from 0", and "NONE if there is no such index". */
    private static void promise38NoSuchIndex() {
        InertialReference r = holding(7, 8);
        Check.due("storedNumber(-1)", r.storedNumber(-1), NONE);
        Check.due("storedNumber(0)", r.storedNumber(0), 7);
        Check.due("storedNumber(1)", r.storedNumber(1), 8);
        Check.due("storedNumber(2)", r.storedNumber(2), NONE);
        Refused.beyond("storedNumber", 0, 29, NONE, InertialReference::storedNumber);
        Check.due("storedNumber(0) of none", new InertialReference().storedNumber(0), NONE);
    }

    /** Promise 38: "NONE if there is no such index": a full shelf has 0 to 29. */
    private static void promise38FullShelf() {
        InertialReference r = full();
        for (int k = 0; k < 30; k++) {
            Check.due("storedNumber(" + k + ") when full", r.storedNumber(k), 10 * k);
        }
        Check.due("storedNumber(30) when full", r.storedNumber(30), NONE);
        r.forget(0);
        Check.due("storedNumber(29) with 29", r.storedNumber(29), NONE);
        Check.due("storedNumber(28) with 29", r.storedNumber(28), 290);
    }

    /** Promise 38: "ordered by the time at which their number was stored first", not by number and not by the last time. */
    private static void promise38OrderOfTheFirstTime() {
        InertialReference r = holding(500, 20, 999, 0);
        r.store(20);
        r.store(500);
        dueNumbers("stored again", r, 500, 20, 999, 0);
    }

    /** Promise 38: "(since it was last removed)". */
    private static void promise38SinceLastRemoved() {
        InertialReference r = holding(500, 20, 999);
        r.forget(500);
        r.store(500);
        dueNumbers("removed and stored", r, 20, 999, 500);
        r.forget(999);
        r.forget(20);
        r.store(20);
        r.store(999);
        r.store(500);
        dueNumbers("removed and stored in another order", r, 500, 20, 999);
    }

    /** Promise 39: "Returns the time before": 0 before the first tick, and after another reset. */
    private static void promise39TimeBefore() {
        InertialReference r = new InertialReference();
        Check.due("reset of a new object", r.reset(), 0);
        r.run(200);
        r.run(1);
        Check.due("reset after 201 ticks", r.reset(), 201);
        Check.due("reset again", r.reset(), 0);
    }

    /** Promise 39: "the stored attitudes .. become empty": all 30 places are free, and no old attitude is found. */
    private static void promise39NothingIsStored() {
        InertialReference r = full();
        r.reset();
        dueNumbers("after reset", r);
        for (int number : new int[] {0, 10, 290}) {
            Check.due("recall(" + number + ") after reset", r.recall(number), NONE);
        }
        for (int k = 0; k < 30; k++) {
            Check.due("store " + k + " after reset", r.store(999 - k), k + 1);
        }
        Check.due("the 31st after reset", r.store(0), FULL);
    }

    /** Promise 39: "Puts everything into its first state; the script .. and the compensation table become empty." */
    private static void promise39FromABusyObject() {
        InertialReference reset = Busy.make();
        Check.due("reset of a busy object", reset.reset(), 12);
        Trace.same("after reset", reset, new InertialReference());

        InertialReference again = Busy.make();
        again.reset();
        InertialReference fresh = new InertialReference();
        for (InertialReference r : new InertialReference[] {again, fresh}) {
            // What the filter, the latest turn vector and the sums of the calibration had kept would show now.
            r.setMethod(2);
            r.setEarthRate(300, 400);
            r.setHeading(7);
            r.addSegment(9, 20000, -10000, 5000);
            r.startCalibration(5);
        }
        Trace.same("after reset and a start anew", again, fresh);
    }
}
