import java.util.function.Consumer;

/**
 * "Nothing is promised beyond the answers and state changes described above": a call changes what it names and nothing
 * else. Calls that together leave a busy object as it was are made on one of two: the other must not differ from it.
 */
public final class NothingElseTest {
    private static final int ONE = 268435456;
    /** The ticks after which the calibration of a busy object has ended. */
    private static final int TO_THE_END_OF_CALIBRATION = 23;
    /** The number under which a busy object has stored the attitude that it has. */
    private static final int STORED_LAST = 290;

    public static void main(String[] args) {
        askingForNumbers();
        askingByAxis();
        askingForAttitudes();
        askingForTheShelf();
        askingForVectors();
        askingLeavesAnAttitudeOfAnyLength();
        sensorsThereAndBack();
        surroundingsThereAndBack();
        estimatorThereAndBack();
        tableThereAndBack();
        scriptThereAndBack();
        shelfThereAndBack();
        turningThereAndBack();
        turningTheTruthByNothing();
        learningNothing();
        calibrationTurnsNothing();
        whatTicksLeaveForTheNextStays();
        Check.end();
    }

    private static void neutral(String what, Consumer<InertialReference> calls) {
        InertialReference asked = Busy.make();
        calls.accept(asked);
        Trace.same(what + " changes nothing else", asked, Busy.make());
    }

    private static void askingForNumbers() {
        neutral("scriptTicks", InertialReference::scriptTicks);
        neutral("time", InertialReference::time);
        neutral("calibrationLeft", InertialReference::calibrationLeft);
        neutral("errorAngle", InertialReference::errorAngle);
        neutral("greatestError", InertialReference::greatestError);
        neutral("tiltError", InertialReference::tiltError);
        neutral("visitedBins", InertialReference::visitedBins);
    }

    private static void askingByAxis() {
        for (int axis = -1; axis <= 3; axis++) {
            int asked = axis;
            neutral("gyro(" + axis + ")", r -> r.gyro(asked));
            neutral("accelerometer(" + axis + ")", r -> r.accelerometer(asked));
            neutral("biasEstimate(" + axis + ")", r -> r.biasEstimate(asked));
            neutral("compensation(" + axis + ", 3)", r -> r.compensation(asked, 3));
            neutral("compensation(" + axis + ", 9)", r -> r.compensation(asked, 9));
        }
    }

    private static void askingForAttitudes() {
        for (int k = -1; k <= 4; k++) {
            int asked = k;
            neutral("estimate(" + k + ")", r -> r.estimate(asked));
            neutral("truth(" + k + ")", r -> r.truth(asked));
        }
    }

    private static void askingForTheShelf() {
        for (int asked : new int[] {-1, 0, 29, 30}) {
            neutral("storedNumber(" + asked + ")", r -> r.storedNumber(asked));
            neutral("angleTo(" + 10 * asked + ")", r -> r.angleTo(10 * asked));
        }
    }

    private static void askingForVectors() {
        for (int axis = -1; axis <= 3; axis++) {
            int asked = axis;
            neutral("toNavigation for axis " + axis, r -> r.toNavigation(ONE, -ONE, ONE, asked));
            neutral("toBody for axis " + axis, r -> r.toBody(ONE, -ONE, ONE, asked));
        }
    }

    /** The coarse turn of one fast tick leaves a length that turning by nothing would mend. */
    private static InertialReference notNormal() {
        InertialReference r = new InertialReference();
        r.setMethod(0);
        r.addSegment(1, 4000000, -4000000, 4000000);
        r.run(1);
        return r;
    }

    private static void askingLeavesAnAttitudeOfAnyLength() {
        long[] before = Parts.ofEstimate(notNormal());
        Check.holds("turning by nothing would show", Model.turnedParts(before, 0, 0, 0, true)[0] != before[0]);
        leaves("toNavigation", before, r -> r.toNavigation(ONE, ONE, ONE, 0));
        leaves("toBody", before, r -> r.toBody(ONE, ONE, ONE, 0));
        leaves("errorAngle", before, InertialReference::errorAngle);
        leaves("tiltError", before, InertialReference::tiltError);
        leaves("store", before, r -> r.store(1));
        leaves("store and angleTo", before, r -> {
            r.store(1);
            r.angleTo(1);
        });
        leaves("store and recall", before, r -> {
            r.store(1);
            r.turnEstimate(5, 6, 7);
            r.recall(1);
        });
        leaves("turnTruth", before, r -> r.turnTruth(4000000, 0, 0));
    }

    private static void leaves(String what, long[] parts, Consumer<InertialReference> calls) {
        InertialReference r = notNormal();
        calls.accept(r);
        Parts.dueEstimate("after " + what, r, parts);
    }

    private static void sensorsThereAndBack() {
        for (int axis = 0; axis < 3; axis++) {
            int asked = axis;
            neutral("setGyro of axis " + axis, r -> {
                r.setGyro(asked, 1, 2, 3, 4);
                r.setGyro(asked, 300 - 200 * asked, 2000 - 1500 * asked, 40 + 10 * asked, 70 - 50 * asked);
            });
            neutral("setAccelerometer of axis " + axis, r -> {
                r.setAccelerometer(asked, -1);
                r.setAccelerometer(asked, 40000 * (asked + 1));
            });
        }
    }

    private static void surroundingsThereAndBack() {
        neutral("setEarthRate", r -> {
            r.setEarthRate(0, 0);
            r.setEarthRate(21000, -34000);
        });
        neutral("setTemperature", r -> {
            r.setTemperature(-40);
            r.setTemperature(85);
            r.setTemperature(33);
        });
        neutral("setSeed", r -> r.setSeed(r.setSeed(5)));
    }

    /** From one gain to another heading keeps its filter: it is not switched off here. */
    private static void estimatorThereAndBack() {
        for (int method = 0; method <= 2; method++) {
            int other = method;
            neutral("setMethod(" + method + ")", r -> {
                r.setMethod(other);
                r.setMethod(2);
            });
        }
        for (int gain : new int[] {0, 1, 20}) {
            neutral("setLevelling(" + gain + ")", r -> {
                r.setLevelling(gain);
                r.setLevelling(6);
            });
        }
        for (int gain : new int[] {1, 5, 20}) {
            neutral("setHeading(" + gain + ")", r -> {
                r.setHeading(gain);
                r.setHeading(5);
            });
        }
    }

    private static void tableThereAndBack() {
        neutral("setCompensation", r -> {
            r.setCompensation(0, 3, -1);
            r.setCompensation(0, 3, 120);
        });
        neutral("forgetBin of a bin without values", r -> r.forgetBin(5));
        neutral("forgetBin", r -> {
            r.forgetBin(3);
            r.setCompensation(1, 3, -340);
            r.setCompensation(0, 3, 120);
        });
        neutral("setCompensation and forgetBin", r -> {
            r.setCompensation(2, 5, 7);
            r.forgetBin(5);
        });
    }

    /** The segments as a busy object has them: 12 ticks of the first are used up. */
    private static void scriptThereAndBack() {
        neutral("clearScript and addSegment", r -> {
            r.clearScript();
            r.addSegment(38, 31000, -22000, 13000);
            for (int k = 1; k < 20; k++) {
                r.addSegment(1 + k % 5, 9000 * k, -7000 * k, 5000 * (k - 10));
            }
        });
        InertialReference cleared = Busy.make();
        long before = cleared.gyro(0);
        cleared.clearScript();
        Check.due("the latest reading after clearScript", cleared.gyro(0), before);
    }

    private static void shelfThereAndBack() {
        neutral("store", r -> r.store(STORED_LAST));
        neutral("forget and store", r -> {
            r.forget(STORED_LAST);
            r.store(STORED_LAST);
        });
    }

    private static void turningThereAndBack() {
        neutral("recall", r -> r.recall(STORED_LAST));
        neutral("turnEstimate and recall", r -> {
            r.turnEstimate(4000000, -4000000, 4000000);
            r.recall(STORED_LAST);
        });
        neutral("recall of another and recall", r -> {
            r.recall(0);
            r.recall(STORED_LAST);
        });
    }

    /** Ticks without rates have made the truth's length as even as it gets. */
    private static void turningTheTruthByNothing() {
        InertialReference turned = Busy.make();
        InertialReference untouched = Busy.make();
        for (InertialReference r : new InertialReference[] {turned, untouched}) {
            r.clearScript();
            r.run(20);
            r.turnEstimate(4000000, 4000000, 4000000);
        }
        turned.turnTruth(0, 0, 0);
        Trace.same("turnTruth changes nothing else", turned, untouched);
    }

    /** Without bias estimates, and with a value in the present bin for each axis, there is nothing to move. */
    private static void learningNothing() {
        InertialReference learned = Busy.make();
        InertialReference untouched = Busy.make();
        for (InertialReference r : new InertialReference[] {learned, untouched}) {
            r.run(TO_THE_END_OF_CALIBRATION);
            Check.due("learnCompensation", r.learnCompensation(), 6);
        }
        Check.due("learnCompensation of nothing", learned.learnCompensation(), 6);
        Trace.same("learnCompensation changes nothing else", learned, untouched);
    }

    /** Until it ends, a calibration leaves the estimates as they are. */
    private static void calibrationTurnsNothing() {
        InertialReference running = Busy.make();
        InertialReference resting = Busy.make();
        running.run(TO_THE_END_OF_CALIBRATION);
        resting.run(TO_THE_END_OF_CALIBRATION);
        Check.due("startCalibration", running.startCalibration(1000), 0);
        running.run(60);
        resting.run(60);
        Parts.dueEstimate("while a calibration runs", running, Parts.ofEstimate(resting));
        for (int axis = 0; axis < 3; axis++) {
            Check.due("biasEstimate(" + axis + ")", running.biasEstimate(axis), resting.biasEstimate(axis));
            Check.due("gyro(" + axis + ")", running.gyro(axis), resting.gyro(axis));
            Check.due("accelerometer(" + axis + ")", running.accelerometer(axis), resting.accelerometer(axis));
        }
        Check.due("greatestError", running.greatestError(), resting.greatestError());
    }

    /** Its filtered vector and its latest turn vector show in the next tick, whose rates are others. */
    private static InertialReference turning() {
        InertialReference r = new InertialReference();
        r.setEarthRate(20000, -30000);
        r.setMethod(2);
        r.setHeading(8);
        r.addSegment(5, 200000, -150000, 90000);
        r.addSegment(5, -90000, 200000, 150000);
        r.run(5);
        return r;
    }

    private static void nextTickIsTheSame(String what, Consumer<InertialReference> calls) {
        InertialReference asked = turning();
        calls.accept(asked);
        asked.run(1);
        InertialReference untouched = turning();
        untouched.run(1);
        Parts.dueEstimate("a tick after " + what, asked, Parts.ofEstimate(untouched));
    }

    /** "a filtered vector", "the latest turn vector": none but setHeading and reset changes one. */
    private static void whatTicksLeaveForTheNextStays() {
        nextTickIsTheSame("store", r -> r.store(1));
        nextTickIsTheSame("forget", r -> {
            r.store(1);
            r.forget(1);
        });
        nextTickIsTheSame("turnEstimate and recall", r -> {
            r.store(1);
            r.turnEstimate(5000, 6000, 7000);
            r.recall(1);
        });
        nextTickIsTheSame("learnCompensation without bias estimates", InertialReference::learnCompensation);
        nextTickIsTheSame("startCalibration", r -> r.startCalibration(5));
        nextTickIsTheSame("setCompensation and forgetBin", r -> {
            r.setCompensation(0, 2, 70000);
            r.forgetBin(2);
        });
        nextTickIsTheSame("clearScript and addSegment", r -> {
            r.clearScript();
            r.addSegment(5, -90000, 200000, 150000);
        });
        nextTickIsTheSame("setMethod", r -> {
            r.setMethod(0);
            r.setMethod(2);
        });
        nextTickIsTheSame("setLevelling", r -> {
            r.setLevelling(3);
            r.setLevelling(0);
        });
        nextTickIsTheSame("setEarthRate", r -> {
            r.setEarthRate(0, 0);
            r.setEarthRate(20000, -30000);
        });
        nextTickIsTheSame("setTemperature and setSeed", r -> {
            r.setTemperature(85);
            r.setSeed(85);
        });
        nextTickIsTheSame("the results", r -> {
            r.errorAngle();
            r.tiltError();
            r.toBody(ONE, ONE, ONE, 1);
            r.toNavigation(ONE, ONE, ONE, 1);
        });
    }
}
