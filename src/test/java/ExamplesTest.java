/** The document's five examples, each on a new object. */
public final class ExamplesTest {
    public static void main(String[] args) {
        biasIsSeenAndEstimated();
        scriptTurnsThereAndBack();
        levellingTakesTheTiltAway();
        gyrocompassFindsNorth();
        attitudesAreStored();
        Check.end();
    }

    private static void biasIsSeenAndEstimated() {
        InertialReference r = new InertialReference();
        Check.due("1: setGyro", r.setGyro(0, 1000, 0, 0, 0), 0);
        Check.due("1: run(2)", r.run(2), 2);
        Check.due("1: gyro(0)", r.gyro(0), 1000);
        Check.due("1: errorAngle", r.errorAngle(), 2000);
        Check.due("1: startCalibration(10)", r.startCalibration(10), 0);
        Check.due("1: run(10)", r.run(10), 12);
        Check.due("1: biasEstimate(0)", r.biasEstimate(0), 1000);
    }

    private static void scriptTurnsThereAndBack() {
        InertialReference r = new InertialReference();
        Check.due("2: addSegment there", r.addSegment(100, 200000, 0, 0), 1);
        Check.due("2: addSegment back", r.addSegment(100, -200000, 0, 0), 2);
        Check.due("2: run(200)", r.run(200), 200);
        Check.due("2: truth(0)", r.truth(0), 268435456);
        Check.due("2: truth(1)", r.truth(1), -213);
        Check.due("2: errorAngle", r.errorAngle(), 0);
        Check.due("2: scriptTicks", r.scriptTicks(), 0);
    }

    private static void levellingTakesTheTiltAway() {
        InertialReference r = new InertialReference();
        Check.due("3: turnEstimate", r.turnEstimate(1000000, 0, 0), 0);
        Check.due("3: tiltError before", r.tiltError(), 999994);
        Check.due("3: setLevelling(3)", r.setLevelling(3), 0);
        Check.due("3: run(50)", r.run(50), 50);
        Check.due("3: tiltError after", r.tiltError(), 1252);
        Check.due("3: accelerometer(2)", r.accelerometer(2), -268435456);
    }

    private static void gyrocompassFindsNorth() {
        InertialReference r = new InertialReference();
        Check.due("4: setEarthRate", r.setEarthRate(20000, 30000), 0);
        Check.due("4: turnEstimate", r.turnEstimate(0, 0, 500000), 0);
        Check.due("4: setHeading(4)", r.setHeading(4), 0);
        Check.due("4: run(200)", r.run(200), 200);
        Check.due("4: errorAngle", r.errorAngle(), 415412);
    }

    private static void attitudesAreStored() {
        InertialReference r = new InertialReference();
        Check.due("5: store(5)", r.store(5), 1);
        Check.due("5: turnEstimate", r.turnEstimate(1000, 0, 0), 0);
        Check.due("5: angleTo(5)", r.angleTo(5), 1000);
        Check.due("5: recall(5)", r.recall(5), 0);
        Check.due("5: errorAngle", r.errorAngle(), 0);
        Check.due("5: recall(6)", r.recall(6), -1);
        Check.due("5: startCalibration(0)", r.startCalibration(0), -2);
    }
}
