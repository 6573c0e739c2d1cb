/** Promises 1 to 14 at their edges: each test stands under the sentence that it holds. */
public final class ClusterEdgesTest {
    private static final long ONE = 268435456L;
    private static final int INVALID = -2;
    private static final int FULL = -3;
    private static final int RATE = 4000000;

    public static void main(String[] args) {
        face512Calls();
        promise01EmptyScript();
        promise01NoStoredAttitudes();
        promise02Axis();
        promise02Bias();
        promise02Scale();
        promise02Noise();
        promise02NoiseRange();
        promise02Slope();
        promise02AllWrong();
        promise03Axis();
        promise03Bias();
        promise04North();
        promise04Down();
        promise04Zero();
        promise05Ends();
        promise05Refused();
        promise05BelowZeroIsNoRefusal();
        promise06AnyInt();
        promise06WrapsAround();
        promise07Ticks();
        promise07Rates();
        promise07Full();
        promise07RoomAgain();
        promise08Counts();
        promise08RoomAgain();
        promise09Sums();
        promise10Ends();
        promise11Ticks();
        promise11LastTime();
        promise12Time();
        promise13BeforeTheFirstTick();
        promise13Axis();
        promise14BeforeTheFirstTick();
        promise14Axis();
        Check.end();
    }

    /** "An object is used for at most 512 calls after it has been made": the 512th is answered like the first. */
    private static void face512Calls() {
        InertialReference r = new InertialReference();
        for (int k = 1; k <= 511; k++) {
            r.run(1);
        }
        Check.due("the 512th call", r.time(), 511);
    }

    /** Promise 1: "with an empty script". */
    private static void promise01EmptyScript() {
        Check.due("clearScript of a new object", new InertialReference().clearScript(), 0);
        Check.due("scriptTicks of a new object", new InertialReference().scriptTicks(), 0);
        Check.due("the first segment of a new object", new InertialReference().addSegment(1, 0, 0, 0), 1);
    }

    /** Promise 1: "and no stored attitudes", under any number: 0 is none either. */
    private static void promise01NoStoredAttitudes() {
        for (int number : new int[] {0, 1, 999}) {
            InertialReference r = new InertialReference();
            Check.due("recall(" + number + ") of a new object", r.recall(number), -1);
            Check.due("forget(" + number + ") of a new object", r.forget(number), -1);
            Check.due("angleTo(" + number + ") of a new object", r.angleTo(number), -1);
            Check.due("the first store(" + number + ")", r.store(number), 1);
        }
    }

    /** Promise 2: "axis: 0 to 2". */
    private static void promise02Axis() {
        for (int axis = 0; axis <= 2; axis++) {
            InertialReference r = new InertialReference();
            Check.due("setGyro of axis " + axis, r.setGyro(axis, 7, 0, 0, 0), 0);
            r.run(1);
            dueGyros("with a bias on axis " + axis, r, axis == 0 ? 7 : 0, axis == 1 ? 7 : 0, axis == 2 ? 7 : 0);
        }
        Refused.beyond("setGyro: axis", 0, 2, INVALID, (r, v) -> r.setGyro(v, 11, 12, 13, 14));
    }

    /** Promise 2: "bias: -100000 to 100000". */
    private static void promise02Bias() {
        for (int bias : new int[] {-100000, 100000}) {
            InertialReference r = new InertialReference();
            Check.due("setGyro with a bias of " + bias, r.setGyro(1, bias, 0, 0, 0), 0);
            r.run(1);
            dueGyros("with a bias of " + bias, r, 0, bias, 0);
        }
        Refused.beyond("setGyro: bias", -100000, 100000, INVALID, (r, v) -> r.setGyro(1, v, 12, 13, 14));
    }

    /** Promise 2: "scale: scale error in millionths, -10000 to 10000". */
    private static void promise02Scale() {
        for (int scale : new int[] {-10000, 10000}) {
            InertialReference r = new InertialReference();
            Check.due("setGyro with a scale of " + scale, r.setGyro(2, 0, scale, 0, 0), 0);
            r.addSegment(2, 0, 0, RATE);
            r.run(1);
            dueGyros("with a scale of " + scale, r, 0, 0, RATE + 4L * scale);
        }
        Refused.beyond("setGyro: scale", -10000, 10000, INVALID, (r, v) -> r.setGyro(2, 11, v, 13, 14));
    }

    /** Promise 2: "noise: noise amplitude, 0 to 10000": the seeds draw 0 and 20000 of 20001, or 0 and 2 of 3. */
    private static void promise02Noise() {
        Check.due("the least noise of 10000", noise(10000, -59267453), -10000);
        Check.due("the greatest noise of 10000", noise(10000, 790079107), 10000);
        Check.due("the number 20001 begins anew", noise(10000, 444376707), -10000);
        Check.due("the least noise of 1", noise(1, -59267453), -1);
        Check.due("the noise between of 1", noise(1, -404969853), 0);
        Check.due("the greatest noise of 1", noise(1, -750672253), 1);
        Check.due("no noise", noise(0, 790079107), 0);
    }

    private static long noise(int amplitude, int seed) {
        InertialReference r = new InertialReference();
        Check.due("setGyro with a noise of " + amplitude, r.setGyro(0, 0, 0, amplitude, 0), 0);
        r.setSeed(seed);
        r.run(1);
        return r.gyro(0);
    }

    /** Promise 2: "noise: noise amplitude, 0 to 10000", and nothing beyond. */
    private static void promise02NoiseRange() {
        Refused.beyond("setGyro: noise", 0, 10000, INVALID, (r, v) -> r.setGyro(0, 11, 12, v, 14));
    }

    /** Promise 2: "slope: temperature slope, -1000 to 1000", at the coldest and the hottest. */
    private static void promise02Slope() {
        for (int slope : new int[] {-1000, 1000}) {
            InertialReference r = new InertialReference();
            Check.due("setGyro with a slope of " + slope, r.setGyro(0, 0, 0, 0, slope), 0);
            r.setTemperature(-40);
            r.run(1);
            dueGyros("coldest with a slope of " + slope, r, -65L * slope / 10, 0, 0);
            r.setTemperature(85);
            r.run(1);
            dueGyros("hottest with a slope of " + slope, r, 60L * slope / 10, 0, 0);
        }
        Refused.beyond("setGyro: slope", -1000, 1000, INVALID, (r, v) -> r.setGyro(0, 11, 12, 13, v));
    }

    /** Promise 2: "INVALID if a parameter is out of range", or if all are. */
    private static void promise02AllWrong() {
        Refused.always("setGyro: all", INVALID, r -> r.setGyro(3, 100001, 10001, 10001, 1001));
        Refused.always("setGyro: all", INVALID, r -> r.setGyro(-1, -100001, -10001, -1, -1001));
    }

    /** Promise 3: "axis: 0 to 2". */
    private static void promise03Axis() {
        for (int axis = 0; axis <= 2; axis++) {
            InertialReference r = new InertialReference();
            Check.due("setAccelerometer of axis " + axis, r.setAccelerometer(axis, 7), 0);
            r.run(1);
            for (int k = 0; k <= 2; k++) {
                long due = (k == axis ? 7 : 0) - (k == 2 ? ONE : 0);
                Check.due("accelerometer(" + k + ") with a bias on " + axis, r.accelerometer(k), due);
            }
        }
        Refused.beyond("setAccelerometer: axis", 0, 2, INVALID, (r, v) -> r.setAccelerometer(v, 99));
    }

    /** Promise 3: "bias: -10000000 to 10000000". */
    private static void promise03Bias() {
        for (int bias : new int[] {-10000000, 10000000}) {
            InertialReference r = new InertialReference();
            Check.due("setAccelerometer of " + bias, r.setAccelerometer(2, bias), 0);
            r.run(1);
            Check.due("accelerometer with a bias of " + bias, r.accelerometer(2), bias - ONE);
        }
        Refused.beyond("setAccelerometer: bias", -10000000, 10000000, INVALID, (r, v) -> r.setAccelerometer(0, v));
    }

    /** Promise 4: "north: -65536 to 65536". */
    private static void promise04North() {
        for (int north : new int[] {-65536, 65536}) {
            InertialReference r = new InertialReference();
            Check.due("setEarthRate of north " + north, r.setEarthRate(north, 0), 0);
            r.run(1);
            dueGyros("with a north of " + north, r, north, 0, 0);
        }
        Refused.beyond("setEarthRate: north", -65536, 65536, INVALID, (r, v) -> r.setEarthRate(v, 99));
    }

    /** Promise 4: "down: -65536 to 65536". */
    private static void promise04Down() {
        for (int down : new int[] {-65536, 65536}) {
            InertialReference r = new InertialReference();
            Check.due("setEarthRate of down " + down, r.setEarthRate(0, down), 0);
            r.run(1);
            dueGyros("with a down of " + down, r, 0, 0, down);
        }
        Refused.beyond("setEarthRate: down", -65536, 65536, INVALID, (r, v) -> r.setEarthRate(99, v));
    }

    /** Promise 4: a rate of 0 is in both ranges, and takes the place of another. */
    private static void promise04Zero() {
        InertialReference r = new InertialReference();
        Check.due("setEarthRate(500, 600)", r.setEarthRate(500, 600), 0);
        Check.due("setEarthRate(0, 700)", r.setEarthRate(0, 700), 0);
        r.run(1);
        dueGyros("without a north", r, 0, 0, 700);
        Check.due("setEarthRate(800, 0)", r.setEarthRate(800, 0), 0);
        r.run(1);
        dueGyros("without a down", r, 800, 0, 0);
        Check.due("setEarthRate(0, 0)", r.setEarthRate(0, 0), 0);
        r.run(1);
        dueGyros("without both", r, 0, 0, 0);
    }

    /** Promise 5: "temperature: -40 to 85", and "Returns the previous temperature". */
    private static void promise05Ends() {
        InertialReference r = new InertialReference();
        Check.due("the first temperature", r.setTemperature(-40), 25);
        Check.due("the coldest", r.setTemperature(85), -40);
        Check.due("the hottest", r.setTemperature(85), 85);
        Check.due("the hottest set again", r.setTemperature(0), 85);
    }

    /** Promise 5: "-1000 if temperature is out of range". */
    private static void promise05Refused() {
        Refused.beyond("setTemperature", -40, 85, -1000, InertialReference::setTemperature);
        Refused.always("setTemperature of its own refusal", -1000, r -> r.setTemperature(-1000));
    }

    /** Promise 5: "Returns the previous temperature", which changes though it answers what elsewhere is an error. */
    private static void promise05BelowZeroIsNoRefusal() {
        InertialReference r = new InertialReference();
        r.setTemperature(-1);
        for (int temperature = -2; temperature >= -40; temperature--) {
            Check.due("setTemperature(" + temperature + ")", r.setTemperature(temperature), temperature + 1);
        }
    }

    /** Promise 6: "seed: any int", and "Returns the previous state", be it -2 or -1000. */
    private static void promise06AnyInt() {
        InertialReference r = new InertialReference();
        int before = 0;
        for (int seed : new int[] {1, -1, -2, -3, -4, -1000, Integer.MIN_VALUE, Integer.MAX_VALUE, 0}) {
            Check.due("setSeed(" + seed + ")", r.setSeed(seed), before);
            before = seed;
        }
        Check.due("setSeed(5)", r.setSeed(5), 0);
    }

    /** State: "s becomes s * 1103515245 + 12345 in 32-bit int arithmetic, and the number is (s >>> 16) % n". */
    private static void promise06WrapsAround() {
        int[] seeds = {Integer.MAX_VALUE, Integer.MIN_VALUE, -1, 286434947, 2088216195, -1916945634};
        for (int seed : seeds) {
            InertialReference r = new InertialReference();
            r.setGyro(1, 0, 0, 10000, 0);
            r.setSeed(seed);
            r.run(1);
            long low32 = (seed * 1103515245L + 12345L) & 0xFFFFFFFFL;
            Check.due("noise of seed " + seed, r.gyro(1), (low32 >> 16) % 20001 - 10000);
            Check.due("state after seed " + seed, r.setSeed(0), (int) low32);
        }
        Check.due("65535, the greatest number before %", noise(10000, 286434947), 65535 - 3 * 20001 - 10000);
        Check.due("32768, where s is below 0", noise(10000, 2088216195), 32768 - 20001 - 10000);
        Check.due("32767, where s is above 0", noise(10000, -1916945634), 32767 - 20001 - 10000);
    }

    /** Promise 7: "ticks: 1 to 1000". */
    private static void promise07Ticks() {
        InertialReference r = new InertialReference();
        Check.due("addSegment of 1 tick", r.addSegment(1, 5, 6, 7), 1);
        Check.due("addSegment of 1000 ticks", r.addSegment(1000, 8, 9, 10), 2);
        Check.due("ticks of both", r.scriptTicks(), 1001);
        r.run(1);
        dueGyros("in the only tick", r, 5, 6, 7);
        for (int k = 0; k < 5; k++) {
            r.run(200);
        }
        dueGyros("in the 1000th tick", r, 8, 9, 10);
        r.run(1);
        dueGyros("after the 1000th tick", r, 0, 0, 0);
        Refused.beyond("addSegment: ticks", 1, 1000, INVALID, (s, v) -> s.addSegment(v, 5, 6, 7));
    }

    /** Promise 7: "x: rate of axis 0, -4000000 to 4000000", and so y of axis 1 and z of axis 2. */
    private static void promise07Rates() {
        InertialReference r = new InertialReference();
        Check.due("addSegment of the least rates", r.addSegment(1, -RATE, -RATE, -RATE), 1);
        Check.due("addSegment of the greatest rates", r.addSegment(1, RATE, RATE, RATE), 2);
        r.run(1);
        dueGyros("at the least rates", r, -RATE, -RATE, -RATE);
        r.run(1);
        dueGyros("at the greatest rates", r, RATE, RATE, RATE);
        Refused.beyond("addSegment: x", -RATE, RATE, INVALID, (s, v) -> s.addSegment(5, v, 6, 7));
        Refused.beyond("addSegment: y", -RATE, RATE, INVALID, (s, v) -> s.addSegment(5, 6, v, 7));
        Refused.beyond("addSegment: z", -RATE, RATE, INVALID, (s, v) -> s.addSegment(5, 6, 7, v));
    }

    /** Promise 7: "the new number of segments", up to "FULL if there are 20 segments". */
    private static void promise07Full() {
        InertialReference r = new InertialReference();
        for (int k = 1; k <= 20; k++) {
            Check.due("segment " + k, r.addSegment(2, k, 0, 0), k);
        }
        Check.due("segment 21", r.addSegment(1, 99, 0, 0), FULL);
        r.run(40);
        Check.due("the 20th segment is the last", r.gyro(0), 20);
        Check.due("no segment is left", r.clearScript(), 0);
        Refused.whenBusy("addSegment: FULL", FULL, s -> s.addSegment(5, 6, 7, 8));
    }

    /** Promise 7: "FULL if there are 20 segments", which a segment in use is, and one that is used up is not. */
    private static void promise07RoomAgain() {
        InertialReference r = new InertialReference();
        for (int k = 1; k <= 20; k++) {
            r.addSegment(2, k, 0, 0);
        }
        r.run(1);
        Check.due("with the first half used", r.addSegment(1, 99, 0, 0), FULL);
        r.run(1);
        Check.due("with the first used up", r.addSegment(1, 99, 0, 0), 20);
        Check.due("full again", r.addSegment(1, 98, 0, 0), FULL);
        r.run(39);
        Check.due("the new one is the last", r.gyro(0), 99);
    }

    /** Promise 8: "Returns how many segments were removed": none, one that is half used, and 20. */
    private static void promise08Counts() {
        InertialReference r = new InertialReference();
        Check.due("clearScript of none", r.clearScript(), 0);
        r.addSegment(2, 5, 6, 7);
        r.run(1);
        Check.due("clearScript of half a segment", r.clearScript(), 1);
        r.run(1);
        dueGyros("after clearScript", r, 0, 0, 0);
        r.addSegment(1, 5, 6, 7);
        r.run(1);
        Check.due("clearScript of a used-up segment", r.clearScript(), 0);
        for (int k = 0; k < 20; k++) {
            r.addSegment(1000, 5, 6, 7);
        }
        Check.due("clearScript of a full script", r.clearScript(), 20);
        Check.due("ticks of a cleared script", r.scriptTicks(), 0);
    }

    /** Promise 8: "Removes all segments": a cleared script takes 20 again. */
    private static void promise08RoomAgain() {
        InertialReference r = new InertialReference();
        for (int k = 0; k < 20; k++) {
            r.addSegment(1, -5, 0, 0);
        }
        r.clearScript();
        for (int k = 1; k <= 20; k++) {
            Check.due("segment " + k + " after clearScript", r.addSegment(1, k, 0, 0), k);
        }
        r.run(1);
        Check.due("the first of the new ones", r.gyro(0), 1);
    }

    /** Promise 9: "Returns the sum over all segments": of none, of parts, and of the longest script. */
    private static void promise09Sums() {
        InertialReference r = new InertialReference();
        Check.due("no segment", r.scriptTicks(), 0);
        for (int k = 0; k < 20; k++) {
            r.addSegment(1000, 0, 0, 0);
        }
        Check.due("the longest script", r.scriptTicks(), 20000);
        r.run(1);
        Check.due("a tick later", r.scriptTicks(), 19999);
        r.clearScript();
        r.addSegment(1, 0, 0, 0);
        r.run(200);
        Check.due("ticks behind the script's end take none", r.scriptTicks(), 0);
    }

    /** Promise 10: "x: -4000000 to 4000000", and so y and z. */
    private static void promise10Ends() {
        for (int end : new int[] {-RATE, RATE}) {
            for (int axis = 0; axis <= 2; axis++) {
                int[] v = {axis == 0 ? end : 0, axis == 1 ? end : 0, axis == 2 ? end : 0};
                InertialReference r = new InertialReference();
                Check.due("turnTruth by " + end, r.turnTruth(v[0], v[1], v[2]), 0);
                long[] due = Model.turnedParts(new long[] {ONE, 0, 0, 0}, v[0], v[1], v[2], true);
                for (int k = 0; k <= 3; k++) {
                    Check.due("truth(" + k + ") turned by " + end + " about " + axis, r.truth(k), due[k]);
                }
            }
        }
        Refused.beyond("turnTruth: x", -RATE, RATE, INVALID, (r, v) -> r.turnTruth(v, 60000, 70000));
        Refused.beyond("turnTruth: y", -RATE, RATE, INVALID, (r, v) -> r.turnTruth(60000, v, 70000));
        Refused.beyond("turnTruth: z", -RATE, RATE, INVALID, (r, v) -> r.turnTruth(60000, 70000, v));
    }

    /** Promise 11: "ticks: 1 to 200". */
    private static void promise11Ticks() {
        InertialReference r = new InertialReference();
        r.addSegment(201, 0, 1, 0);
        Check.due("run(1)", r.run(1), 1);
        Check.due("ticks left after 1", r.scriptTicks(), 200);
        Check.due("run(200)", r.run(200), 201);
        Check.due("ticks left after 201", r.scriptTicks(), 0);
        Refused.beyond("run", 1, 200, INVALID, InertialReference::run);
    }

    /** Promise 11: "INVALID if .. the time would exceed 100000": not one of the refused run's ticks is done. */
    private static void promise11LastTime() {
        InertialReference r = new InertialReference();
        r.setGyro(0, 1000, 0, 0, 0);
        for (int k = 0; k < 499; k++) {
            r.run(200);
        }
        Check.due("one tick more", r.run(1), 99801);
        long before = r.estimate(1);
        Check.due("a run that would end at 100001", r.run(200), INVALID);
        Check.due("time after the refused run", r.time(), 99801);
        Check.due("estimate(1) after the refused run", r.estimate(1), before);
        Check.due("a run that ends at 100000", r.run(199), 100000);
        before = r.estimate(1);
        Check.due("one tick beyond", r.run(1), INVALID);
        Check.due("estimate(1) after the refused tick", r.estimate(1), before);
        Check.due("reset", r.reset(), 100000);
        Check.due("the time begins anew", r.run(200), 200);
    }

    /** Promise 12: "Returns the time": 0 at first, and again after reset. */
    private static void promise12Time() {
        InertialReference r = new InertialReference();
        Check.due("time at first", r.time(), 0);
        r.run(3);
        Check.due("time after three ticks", r.time(), 3);
        r.reset();
        Check.due("time after reset", r.time(), 0);
    }

    /** Promise 13: "0 before the first tick", whatever is set. */
    private static void promise13BeforeTheFirstTick() {
        InertialReference r = new InertialReference();
        setAllSensors(r);
        dueGyros("before the first tick", r, 0, 0, 0);
        r.run(1);
        Check.holds("gyro(0) after the first tick", r.gyro(0) != 0);
        r.reset();
        setAllSensors(r);
        dueGyros("before the first tick after reset", r, 0, 0, 0);
    }

    /** Promise 13: "axis: 0 to 2", and "0 if axis is out of range". */
    private static void promise13Axis() {
        InertialReference r = new InertialReference();
        r.addSegment(1, 5, 6, 7);
        r.run(1);
        dueGyros("of a tick", r, 5, 6, 7);
        Refused.beyond("gyro", 0, 2, 0, InertialReference::gyro);
    }

    /** Promise 14: "0 before the first tick", though the upward vector is there. */
    private static void promise14BeforeTheFirstTick() {
        InertialReference r = new InertialReference();
        setAllSensors(r);
        dueNoAccelerometers("before the first tick", r);
        r.run(1);
        Check.holds("accelerometer(2) after the first tick", r.accelerometer(2) != 0);
        r.reset();
        setAllSensors(r);
        dueNoAccelerometers("before the first tick after reset", r);
    }

    /** Promise 14: "axis: 0 to 2", and "0 if axis is out of range". */
    private static void promise14Axis() {
        InertialReference r = new InertialReference();
        r.setAccelerometer(0, 5);
        r.setAccelerometer(1, 6);
        r.run(1);
        Check.due("accelerometer(0)", r.accelerometer(0), 5);
        Check.due("accelerometer(1)", r.accelerometer(1), 6);
        Check.due("accelerometer(2)", r.accelerometer(2), -ONE);
        Refused.beyond("accelerometer", 0, 2, 0, InertialReference::accelerometer);
    }

    private static void setAllSensors(InertialReference r) {
        for (int axis = 0; axis <= 2; axis++) {
            r.setGyro(axis, 1000, 100, 0, 50);
            r.setAccelerometer(axis, 3000);
        }
        r.setEarthRate(300, 400);
        r.addSegment(5, 1, 2, 3);
        r.turnTruth(500000, 0, 0);
    }

    private static void dueGyros(String when, InertialReference r, long x, long y, long z) {
        Check.due("gyro(0) " + when, r.gyro(0), x);
        Check.due("gyro(1) " + when, r.gyro(1), y);
        Check.due("gyro(2) " + when, r.gyro(2), z);
    }

    private static void dueNoAccelerometers(String when, InertialReference r) {
        for (int axis = 0; axis <= 2; axis++) {
            Check.due("accelerometer(" + axis + ") " + when, r.accelerometer(axis), 0);
        }
    }
}
