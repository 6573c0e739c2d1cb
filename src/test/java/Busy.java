/** An object with every part at work: full script, full shelf, running calibration, errors on every sensor. */
final class Busy {
    /** The numbers that are stored: 0, 10, 20 and so on. */
    static final int STORED = 30;

    private Busy() {
    }

    static InertialReference make() {
        InertialReference r = new InertialReference();
        sensors(r);
        estimator(r);
        r.addSegment(50, 31000, -22000, 13000);
        r.startCalibration(4);
        r.run(5);
        r.startCalibration(30);
        r.run(7);
        for (int k = 1; k < 20; k++) {
            r.addSegment(1 + k % 5, 9000 * k, -7000 * k, 5000 * (k - 10));
        }
        for (int k = 0; k < STORED; k++) {
            r.turnEstimate(1000 * k, -700 * k, 300);
            r.store(10 * k);
        }
        return r;
    }

    private static void sensors(InertialReference r) {
        for (int axis = 0; axis < 3; axis++) {
            r.setGyro(axis, 300 - 200 * axis, 2000 - 1500 * axis, 40 + 10 * axis, 70 - 50 * axis);
            r.setAccelerometer(axis, 40000 * (axis + 1));
        }
        r.setEarthRate(21000, -34000);
        r.setTemperature(33);
        r.setSeed(4711);
        r.turnTruth(300000, -200000, 100000);
    }

    private static void estimator(InertialReference r) {
        r.setMethod(2);
        r.setLevelling(6);
        r.setHeading(5);
        r.setCompensation(0, 3, 120);
        r.setCompensation(1, 3, -340);
        r.setCompensation(2, 2, 77);
        r.setCompensation(0, -4, 5);
        r.setCompensation(1, 8, 9);
    }
}
