/** What every call answers on a new object, and so after reset. */
final class FirstState {
    private FirstState() {
    }

    static void due(String what, InertialReference r) {
        results(what, r);
        for (int axis = 0; axis < 3; axis++) {
            Check.due(what + ": gyro(" + axis + ")", r.gyro(axis), 0);
            Check.due(what + ": accelerometer(" + axis + ")", r.accelerometer(axis), 0);
            Check.due(what + ": biasEstimate(" + axis + ")", r.biasEstimate(axis), 0);
            for (int bin = -4; bin <= 8; bin++) {
                Check.due(what + ": compensation(" + axis + ", " + bin + ")", r.compensation(axis, bin), 0);
            }
        }
        settings(what, r);
        firstTick(what, r);
    }

    private static void results(String what, InertialReference r) {
        Check.due(what + ": time", r.time(), 0);
        Check.due(what + ": scriptTicks", r.scriptTicks(), 0);
        Check.due(what + ": calibrationLeft", r.calibrationLeft(), 0);
        Check.due(what + ": errorAngle", r.errorAngle(), 0);
        Check.due(what + ": greatestError", r.greatestError(), 0);
        Check.due(what + ": tiltError", r.tiltError(), 0);
        Check.due(what + ": visitedBins", r.visitedBins(), 0);
        Check.due(what + ": storedNumber(0)", r.storedNumber(0), -1);
        for (int k = 0; k < 4; k++) {
            Check.due(what + ": estimate(" + k + ")", r.estimate(k), k == 0 ? 268435456 : 0);
            Check.due(what + ": truth(" + k + ")", r.truth(k), k == 0 ? 268435456 : 0);
        }
    }

    private static void settings(String what, InertialReference r) {
        Check.due(what + ": clearScript", r.clearScript(), 0);
        Check.due(what + ": setTemperature", r.setTemperature(25), 25);
        Check.due(what + ": setSeed", r.setSeed(0), 0);
        Check.due(what + ": setMethod", r.setMethod(1), 1);
        Check.due(what + ": setLevelling", r.setLevelling(0), 0);
        Check.due(what + ": setHeading", r.setHeading(0), 0);
        Check.due(what + ": values in the table", r.setCompensation(0, 0, 0), 1);
        Check.due(what + ": values in a bin", r.forgetBin(0), 1);
    }

    private static void firstTick(String what, InertialReference r) {
        Check.due(what + ": run(1)", r.run(1), 1);
        for (int axis = 0; axis < 3; axis++) {
            Check.due(what + ": gyro(" + axis + ") after a tick", r.gyro(axis), 0);
            Check.due(what + ": accelerometer(" + axis + ") after a tick", r.accelerometer(axis),
                    axis == 2 ? -268435456 : 0);
        }
        Check.due(what + ": estimate(0) after a tick", r.estimate(0), 268435456);
        Check.due(what + ": visitedBins after a tick", r.visitedBins(), 1);
        Check.due(what + ": the generator after a tick", r.setSeed(0), 0);
    }
}
