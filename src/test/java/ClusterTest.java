/** Promises 1 to 14: a new object, the cluster and its motion. */
public final class ClusterTest {
    private static final long ONE = 268435456L;
    private static final int[] NO_AXES = {-1, 3, 4, Integer.MIN_VALUE, Integer.MAX_VALUE};

    public static void main(String[] args) {
        promise01NewObject();
        promise01ObjectsAreApart();
        promise02GyroErrors();
        promise02GyroNoise();
        promise02GyroRanges();
        promise03Accelerometer();
        promise04EarthRate();
        promise05Temperature();
        promise06Seed();
        promise07Segments();
        promise07SegmentRefusals();
        promise08ClearScript();
        promise09ScriptTicks();
        promise10TurnTruth();
        promise11Run();
        promise11LastTime();
        promise12Time();
        promise13Gyro();
        promise14Accelerometer();
        Check.end();
    }

    private static void promise01NewObject() {
        InertialReference r = new InertialReference();
        FirstState.due("a new object", r);
        Check.due("NONE", InertialReference.NONE, -1);
        Check.due("INVALID", InertialReference.INVALID, -2);
        Check.due("FULL", InertialReference.FULL, -3);
        Check.due("BUSY", InertialReference.BUSY, -4);
    }

    private static void promise01ObjectsAreApart() {
        InertialReference used = new InertialReference();
        InertialReference other = new InertialReference();
        used.setGyro(0, 7, 0, 0, 0);
        used.addSegment(3, 1, 2, 3);
        used.store(1);
        used.setCompensation(0, 0, 5);
        used.run(2);
        FirstState.due("an object beside a used one", other);
    }

    private static void promise02GyroErrors() {
        InertialReference r = new InertialReference();
        Check.due("setGyro", r.setGyro(0, -100000, 0, 0, 0), 0);
        Check.due("setGyro", r.setGyro(1, 0, 10000, 0, 0), 0);
        Check.due("setGyro", r.setGyro(2, 0, -10000, 0, 0), 0);
        r.addSegment(1, 10, 1000000, 1000000);
        r.run(1);
        Check.due("gyro with a bias", r.gyro(0), 10 - 100000);
        Check.due("gyro with a scale error", r.gyro(1), 1010000);
        Check.due("gyro with a negative scale error", r.gyro(2), 990000);

        // The scale and the slope are rounded down, each alone.
        r = new InertialReference();
        r.setGyro(0, 0, 1, 0, 0);
        r.setGyro(1, 0, -1, 0, 0);
        r.setGyro(2, 0, 0, 0, 1);
        r.addSegment(1, -1, 999999, 0);
        r.setTemperature(24);
        r.run(1);
        Check.due("scale of -1", r.gyro(0), -2);
        Check.due("scale of -1 of 999999", r.gyro(1), 999998);
        Check.due("slope one degree below 25", r.gyro(2), -1);
        r.setTemperature(34);
        r.run(1);
        Check.due("slope nine degrees above 25", r.gyro(2), 0);
        r.setTemperature(35);
        r.run(1);
        Check.due("slope ten degrees above 25", r.gyro(2), 1);

        r.setGyro(0, 50, 0, 0, 1000);
        r.setTemperature(85);
        r.run(1);
        Check.due("bias and slope at 85", r.gyro(0), 50 + 6000);
        r.setGyro(0, 0, 0, 0, 0);
        r.run(1);
        Check.due("gyro whose errors are taken away", r.gyro(0), 0);
    }

    private static void promise02GyroNoise() {
        InertialReference r = new InertialReference();
        r.setGyro(2, 0, 0, 3, 0);
        r.setGyro(0, 0, 0, 10000, 0);
        r.run(1);
        int first = 12345;
        int second = first * 1103515245 + 12345;
        Check.due("noise of axis 0", r.gyro(0), (first >>> 16) % 20001 - 10000);
        Check.due("no noise draws nothing", r.gyro(1), 0);
        Check.due("noise of axis 2", r.gyro(2), (second >>> 16) % 7 - 3);
        Check.due("the state after two drawings", r.setSeed(0), second);
        Check.due("that state by hand", second, 0xD3DC167E);

        r = new InertialReference();
        r.setGyro(0, 0, 0, 1, 0);
        boolean[] met = new boolean[3];
        for (int k = 0; k < 60; k++) {
            r.run(1);
            long d = r.gyro(0);
            Check.holds("noise within its amplitude", d >= -1 && d <= 1);
            if (d >= -1 && d <= 1) {
                met[(int) d + 1] = true;
            }
        }
        Check.holds("every noise of the amplitude", met[0] && met[1] && met[2]);
    }

    private static void promise02GyroRanges() {
        InertialReference r = new InertialReference();
        Check.range("setGyro: axis", 0, 2, -2, v -> r.setGyro(v, 0, 0, 0, 0));
        Check.range("setGyro: bias", -100000, 100000, -2, v -> r.setGyro(0, v, 0, 0, 0));
        Check.range("setGyro: scale", -10000, 10000, -2, v -> r.setGyro(0, 0, v, 0, 0));
        Check.range("setGyro: noise", 0, 10000, -2, v -> r.setGyro(0, 0, 0, v, 0));
        Check.range("setGyro: slope", -1000, 1000, -2, v -> r.setGyro(0, 0, 0, 0, v));

        InertialReference kept = new InertialReference();
        kept.setGyro(0, 100, 0, 0, 0);
        kept.setGyro(3, 1, 0, 0, 0);
        kept.setGyro(0, 100001, 0, 0, 0);
        kept.setGyro(0, 1, 10001, 0, 0);
        kept.setGyro(0, 1, 0, 10001, 0);
        kept.setGyro(0, 1, 0, 0, 1001);
        kept.run(1);
        Check.due("gyro(0) after refused calls", kept.gyro(0), 100);
        Check.due("gyro(2) after refused calls", kept.gyro(2), 0);
    }

    private static void promise03Accelerometer() {
        InertialReference r = new InertialReference();
        Check.due("setAccelerometer", r.setAccelerometer(0, -10000000), 0);
        Check.due("setAccelerometer", r.setAccelerometer(1, 5), 0);
        Check.due("setAccelerometer", r.setAccelerometer(2, 10000000), 0);
        Check.due("accelerometer before a tick", r.accelerometer(0), 0);
        r.run(1);
        Check.due("accelerometer(0)", r.accelerometer(0), -10000000);
        Check.due("accelerometer(1)", r.accelerometer(1), 5);
        Check.due("accelerometer(2)", r.accelerometer(2), 10000000 - ONE);
        Check.due("setAccelerometer beyond", r.setAccelerometer(1, 10000001), -2);
        Check.due("setAccelerometer of axis 3", r.setAccelerometer(3, 1), -2);
        r.run(1);
        Check.due("accelerometer(1) after refused calls", r.accelerometer(1), 5);
        Check.range("setAccelerometer: axis", 0, 2, -2, v -> r.setAccelerometer(v, 0));
        Check.range("setAccelerometer: bias", -10000000, 10000000, -2, v -> r.setAccelerometer(0, v));
    }

    private static void promise04EarthRate() {
        InertialReference r = new InertialReference();
        Check.due("setEarthRate", r.setEarthRate(65536, -65536), 0);
        r.run(1);
        Check.due("north at gyro(0)", r.gyro(0), 65536);
        Check.due("nothing at gyro(1)", r.gyro(1), 0);
        Check.due("down at gyro(2)", r.gyro(2), -65536);
        Check.due("the earth turns neither attitude", r.errorAngle(), 0);
        Check.due("the earth turns no truth", r.truth(1), 0);
        Check.due("setEarthRate refused", r.setEarthRate(1, 65537), -2);
        Check.due("setEarthRate refused", r.setEarthRate(65537, 1), -2);
        r.run(1);
        Check.due("north after refused calls", r.gyro(0), 65536);
        Check.due("down after refused calls", r.gyro(2), -65536);
        Check.range("setEarthRate: north", -65536, 65536, -2, v -> r.setEarthRate(v, 0));
        Check.range("setEarthRate: down", -65536, 65536, -2, v -> r.setEarthRate(0, v));

        // The rate stands in the navigation frame: a turned body feels it on other axes, and the script's rate beside it.
        InertialReference turned = new InertialReference();
        turned.setEarthRate(0, 60000);
        turned.turnTruth(4000000, 0, 0);
        turned.turnTruth(4000000, 0, 0);
        turned.addSegment(1, 0, 1000, 0);
        turned.run(1);
        Check.holds("a rolled body feels down on axis 1: " + turned.gyro(1), turned.gyro(1) > 2700 && turned.gyro(1) < 2800);
        Check.holds("a rolled body feels less of down: " + turned.gyro(2), turned.gyro(2) > 59900 && turned.gyro(2) < 60000);
    }

    private static void promise05Temperature() {
        InertialReference r = new InertialReference();
        Check.due("first temperature", r.setTemperature(-40), 25);
        Check.due("coldest", r.setTemperature(85), -40);
        Check.due("hottest", r.setTemperature(0), 85);
        Check.due("too hot", r.setTemperature(86), -1000);
        Check.due("too cold", r.setTemperature(-41), -1000);
        Check.due("after refused calls", r.setTemperature(-1), 0);
        Check.range("setTemperature", -40, 85, -1000, r::setTemperature);

        InertialReference bins = new InertialReference();
        for (int bin = -4; bin <= 8; bin++) {
            bins.setCompensation(0, bin, 100 + bin);
        }
        int[] temperatures = {-40, -31, -30, -1, 0, 9, 10, 79, 80, 85};
        int[] binsThere = {-4, -4, -3, -1, 0, 0, 1, 7, 8, 8};
        for (int k = 0; k < temperatures.length; k++) {
            bins.setTemperature(temperatures[k]);
            bins.startCalibration(1);
            bins.run(1);
            Check.due("bin at " + temperatures[k], bins.biasEstimate(0), -(100 + binsThere[k]));
        }
    }

    private static void promise06Seed() {
        InertialReference r = new InertialReference();
        Check.due("first state", r.setSeed(Integer.MIN_VALUE), 0);
        Check.due("least int", r.setSeed(Integer.MAX_VALUE), Integer.MIN_VALUE);
        Check.due("greatest int", r.setSeed(-1), Integer.MAX_VALUE);
        r.setGyro(1, 0, 0, 100, 0);
        r.run(1);
        int drawn = -1103515245 + 12345;
        Check.due("noise of a seed", r.gyro(1), (drawn >>> 16) % 201 - 100);
        Check.due("the state that the noise left", r.setSeed(5), drawn);
        r.setGyro(1, 0, 0, 0, 0);
        r.run(3);
        Check.due("no noise leaves the state", r.setSeed(0), 5);
    }

    private static void promise07Segments() {
        InertialReference r = new InertialReference();
        Check.due("first segment", r.addSegment(2, 100, -200, 300), 1);
        Check.due("second segment", r.addSegment(1, -4, 5, -6), 2);
        r.run(1);
        dueGyros("in the first segment", r, 100, -200, 300);
        Check.due("a segment in use stays", r.addSegment(1, 7, 8, 9), 3);
        r.run(1);
        dueGyros("at the first segment's end", r, 100, -200, 300);
        Check.due("a segment that is used up goes", r.addSegment(1, 10, 11, 12), 3);
        r.run(1);
        dueGyros("in the second segment", r, -4, 5, -6);
        r.run(1);
        dueGyros("in the third segment", r, 7, 8, 9);
        r.run(1);
        dueGyros("in the fourth segment", r, 10, 11, 12);
        r.run(1);
        dueGyros("without a segment", r, 0, 0, 0);
        Check.due("a segment after all", r.addSegment(1, 0, 0, 0), 1);
    }

    private static void promise07SegmentRefusals() {
        InertialReference r = new InertialReference();
        Check.range("addSegment: ticks", 1, 1000, -2, v -> r.addSegment(v, 0, 0, 0));
        Check.range("addSegment: x", -4000000, 4000000, -2, v -> r.addSegment(1, v, 0, 0));
        Check.range("addSegment: y", -4000000, 4000000, -2, v -> r.addSegment(1, 0, v, 0));
        Check.range("addSegment: z", -4000000, 4000000, -2, v -> r.addSegment(1, 0, 0, v));
        Check.due("segments that were taken", r.clearScript(), 8);
        for (int k = 1; k <= 20; k++) {
            Check.due("segment " + k, r.addSegment(k, k, 0, 0), k);
        }
        Check.due("segment 21", r.addSegment(1, 0, 0, 0), -3);
        Check.due("a wrong segment 21", r.addSegment(0, 0, 0, 0), -2);
        Check.due("ticks after refused calls", r.scriptTicks(), 210);
        r.run(1);
        Check.due("a segment in place of the used one", r.addSegment(1, 0, 0, 0), 20);
        Check.due("one more", r.addSegment(1, 0, 0, 0), -3);
        for (int k = 2; k <= 20; k++) {
            r.run(k);
            Check.due("rate of segment " + k, r.gyro(0), k);
        }
    }

    private static void promise08ClearScript() {
        InertialReference r = new InertialReference();
        Check.due("clearScript of none", r.clearScript(), 0);
        r.addSegment(10, 5, 0, 0);
        r.addSegment(10, 6, 0, 0);
        r.run(3);
        Check.due("clearScript", r.clearScript(), 2);
        Check.due("clearScript again", r.clearScript(), 0);
        Check.due("ticks of none", r.scriptTicks(), 0);
        r.run(1);
        Check.due("rate of none", r.gyro(0), 0);
    }

    private static void promise09ScriptTicks() {
        InertialReference r = new InertialReference();
        Check.due("no ticks", r.scriptTicks(), 0);
        r.addSegment(1000, 0, 0, 0);
        r.addSegment(5, 0, 0, 0);
        Check.due("ticks of two", r.scriptTicks(), 1005);
        r.run(200);
        Check.due("ticks after 200", r.scriptTicks(), 805);
        r.clearScript();
        for (int k = 0; k < 20; k++) {
            r.addSegment(1000, 0, 0, 0);
        }
        Check.due("ticks of twenty", r.scriptTicks(), 20000);
    }

    private static void promise10TurnTruth() {
        InertialReference r = new InertialReference();
        Check.due("turnTruth", r.turnTruth(1000000, 0, 0), 0);
        Check.due("truth(0)", r.truth(0), 268434990);
        Check.due("truth(1)", r.truth(1), 499998);
        Check.due("estimate(1) stays", r.estimate(1), 0);
        Check.due("errorAngle", r.errorAngle(), 999996);
        Check.due("greatestError waits for a tick", r.greatestError(), 0);
        r.run(1);
        Check.due("the gyro does not notice", r.gyro(0), 0);
        Check.due("greatestError", r.greatestError(), 999996);
        Check.due("turnTruth refused", r.turnTruth(1, 1, 4000001), -2);
        Check.due("truth(1) after a refused call", r.truth(1), 499998);
        InertialReference e = new InertialReference();
        Check.range("turnTruth: x", -4000000, 4000000, -2, v -> e.turnTruth(v, 0, 0));
        Check.range("turnTruth: y", -4000000, 4000000, -2, v -> e.turnTruth(0, v, 0));
        Check.range("turnTruth: z", -4000000, 4000000, -2, v -> e.turnTruth(0, 0, v));
        InertialReference third = new InertialReference();
        third.turnTruth(0, 0, -1);
        Check.due("half of -1 is rounded down", third.truth(3), -1);
        third.turnTruth(0, 1, 0);
        Check.due("half of 1 is rounded down", third.truth(2), 0);
    }

    private static void promise11Run() {
        InertialReference r = new InertialReference();
        Check.due("run(1)", r.run(1), 1);
        Check.due("run(200)", r.run(200), 201);
        Check.due("run(0)", r.run(0), -2);
        Check.due("run(-1)", r.run(-1), -2);
        Check.due("run(201)", r.run(201), -2);
        Check.due("run of the greatest int", r.run(Integer.MAX_VALUE), -2);
        Check.due("run of the least int", r.run(Integer.MIN_VALUE), -2);
        Check.due("time after refused calls", r.time(), 201);

        // Many ticks at once are the same as many calls of one.
        InertialReference once = busyReference();
        InertialReference often = busyReference();
        once.run(60);
        for (int k = 0; k < 60; k++) {
            often.run(1);
        }
        for (int k = 0; k < 4; k++) {
            Check.due("estimate(" + k + ") of many calls", often.estimate(k), once.estimate(k));
            Check.due("truth(" + k + ") of many calls", often.truth(k), once.truth(k));
        }
        Check.due("greatestError of many calls", often.greatestError(), once.greatestError());
    }

    private static InertialReference busyReference() {
        InertialReference r = new InertialReference();
        r.setGyro(0, 30, 100, 20, 4);
        r.setEarthRate(3000, 4000);
        r.setAccelerometer(1, 12345);
        r.addSegment(25, 100000, -50000, 3000);
        r.addSegment(25, -1000, 0, 300000);
        r.setMethod(2);
        r.setLevelling(5);
        r.setHeading(6);
        r.startCalibration(33);
        return r;
    }

    private static void promise11LastTime() {
        InertialReference r = new InertialReference();
        for (int k = 0; k < 499; k++) {
            r.run(200);
        }
        Check.due("time before the last run", r.run(1), 99801);
        Check.due("a tick beyond the last time", r.run(200), -2);
        Check.due("time after the refused run", r.time(), 99801);
        Check.due("up to the last time", r.run(199), 100000);
        Check.due("beyond the last time", r.run(1), -2);
        Check.due("the last time", r.reset(), 100000);
        Check.due("run after reset", r.run(1), 1);
    }

    private static void promise12Time() {
        InertialReference r = new InertialReference();
        Check.due("time at first", r.time(), 0);
        r.run(7);
        r.run(5);
        Check.due("time", r.time(), 12);
        r.turnTruth(1, 1, 1);
        Check.due("time stands between runs", r.time(), 12);
    }

    private static void promise13Gyro() {
        InertialReference r = new InertialReference();
        r.setGyro(0, 1, 0, 0, 0);
        r.setGyro(1, 2, 0, 0, 0);
        r.setGyro(2, 3, 0, 0, 0);
        dueGyros("before a tick", r, 0, 0, 0);
        r.run(1);
        dueGyros("after a tick", r, 1, 2, 3);
        for (int axis : NO_AXES) {
            Check.due("gyro(" + axis + ")", r.gyro(axis), 0);
        }
        r.setGyro(0, 9, 0, 0, 0);
        Check.due("the latest reading stays until a tick", r.gyro(0), 1);
    }

    private static void promise14Accelerometer() {
        InertialReference r = new InertialReference();
        for (int axis = 0; axis < 3; axis++) {
            r.setAccelerometer(axis, 10 + axis);
            Check.due("accelerometer(" + axis + ") before a tick", r.accelerometer(axis), 0);
        }
        r.run(1);
        Check.due("accelerometer(0)", r.accelerometer(0), 10);
        Check.due("accelerometer(1)", r.accelerometer(1), 11);
        Check.due("accelerometer(2)", r.accelerometer(2), 12 - ONE);
        for (int axis : NO_AXES) {
            Check.due("accelerometer(" + axis + ")", r.accelerometer(axis), 0);
        }
        r.turnTruth(1000000, 0, 0);
        Check.due("the latest reading stays until a tick", r.accelerometer(1), 11);
        // Gravity is read after the tick's turn: r21 of a turn by x is 2 * (268434990 * 499998 >> 28).
        InertialReference turned = new InertialReference();
        turned.addSegment(1, 1000000, 0, 0);
        turned.run(1);
        Check.due("accelerometer(1) after a turn", turned.accelerometer(1), -2 * ((268434990L * 499998L) >> 28));
    }

    private static void dueGyros(String when, InertialReference r, long x, long y, long z) {
        Check.due("gyro(0) " + when, r.gyro(0), x);
        Check.due("gyro(1) " + when, r.gyro(1), y);
        Check.due("gyro(2) " + when, r.gyro(2), z);
    }
}
