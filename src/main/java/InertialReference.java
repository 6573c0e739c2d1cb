import java.util.Arrays;

/** A strapdown inertial attitude reference in fixed-point arithmetic, simulated tick by tick. */
public final class InertialReference {
    public static final int NONE = -1;
    public static final int INVALID = -2;
    public static final int FULL = -3;
    public static final int BUSY = -4;

    private static final int MOST_GYRO_BIAS = 100000;
    private static final int MOST_SCALE = 10000;
    private static final int MOST_NOISE = 10000;
    private static final int MOST_SLOPE = 1000;
    private static final int MOST_ACCELEROMETER_BIAS = 10000000;
    private static final int WRONG_TEMPERATURE = -1000;
    private static final int COLDEST = -40;
    private static final int HOTTEST = 85;
    private static final int MOST_TURN = 4000000;
    private static final int MOST_EARTH_RATE = 65536;
    private static final int MOST_COMPENSATION = 1000000;
    private static final int LAST_METHOD = 2;
    private static final int MOST_GAIN = 20;
    private static final int MOST_SEGMENT_TICKS = 1000;
    private static final int MOST_CALIBRATION_TICKS = 1000;
    private static final int MOST_RUN_TICKS = 200;
    private static final int LAST_TIME = 100000;
    private static final int LAST_STORED_NUMBER = 999;

    private static final int AXES = 3;
    private static final int PARTS = 4;
    private static final int SHIFT = 28;
    private static final long ONE = 268435456L;
    private static final long[] UPWARD = {0L, 0L, -268435456L};

    private final Attitude trueAttitude = new Attitude();
    private final Script script = new Script();
    private final Sensors sensors = new Sensors();
    private final CompensationTable table = new CompensationTable();
    private final Estimator estimator = new Estimator();
    private final AttitudeShelf shelf = new AttitudeShelf();
    private final long[] earthRate = new long[AXES];
    private final long[] rates = new long[AXES];
    private final long[] trueUp = new long[AXES];
    private final long[] estimatedUp = new long[AXES];
    private final long[] between = new long[AXES];
    private int now;
    private int visited;
    private long greatest;

    /** Each part begins in its own first state. */
    public InertialReference() {
    }

    // ---- the cluster and its motion

    public int setGyro(int axis, int bias, int scale, int noise, int slope) {
        if (!Fixed.isAxis(axis) || !Fixed.isWithin(bias, MOST_GYRO_BIAS) || !Fixed.isWithin(scale, MOST_SCALE)
                || !Fixed.isBetween(noise, 0, MOST_NOISE) || !Fixed.isWithin(slope, MOST_SLOPE)) {
            return INVALID;
        }
        sensors.setGyroErrors(axis, bias, scale, noise, slope);
        return 0;
    }

    public int setAccelerometer(int axis, int bias) {
        if (!Fixed.isAxis(axis) || !Fixed.isWithin(bias, MOST_ACCELEROMETER_BIAS)) {
            return INVALID;
        }
        sensors.setAccelerometerBias(axis, bias);
        return 0;
    }

    public int setEarthRate(int north, int down) {
        if (!Fixed.isWithin(north, MOST_EARTH_RATE) || !Fixed.isWithin(down, MOST_EARTH_RATE)) {
            return INVALID;
        }
        earthRate[0] = north;
        earthRate[2] = down;
        return 0;
    }

    public int setTemperature(int temperature) {
        if (!Fixed.isBetween(temperature, COLDEST, HOTTEST)) {
            return WRONG_TEMPERATURE;
        }
        return sensors.changeTemperature(temperature);
    }

    public int setSeed(int seed) {
        return sensors.changeSeed(seed);
    }

    public int addSegment(int ticks, int x, int y, int z) {
        if (!Fixed.isBetween(ticks, 1, MOST_SEGMENT_TICKS) || !isTurn(x, y, z)) {
            return INVALID;
        }
        return script.append(ticks, x, y, z);
    }

    public int clearScript() {
        return script.empty();
    }

    public int scriptTicks() {
        return script.ticksLeft();
    }

    public int turnTruth(int x, int y, int z) {
        if (!isTurn(x, y, z)) {
            return INVALID;
        }
        trueAttitude.turn(x, y, z);
        return 0;
    }

    public int run(int ticks) {
        if (!Fixed.isBetween(ticks, 1, MOST_RUN_TICKS) || now + ticks > LAST_TIME) {
            return INVALID;
        }
        for (int done = 0; done < ticks; done++) {
            tick();
        }
        return now;
    }

    public int time() {
        return now;
    }

    public long gyro(int axis) {
        return Fixed.at(sensors.gyroReadings, axis);
    }

    public long accelerometer(int axis) {
        return Fixed.at(sensors.accelerometerReadings, axis);
    }

    // ---- the estimator

    public int setMethod(int method) {
        if (!Fixed.isBetween(method, 0, LAST_METHOD)) {
            return INVALID;
        }
        return estimator.changeMethod(method);
    }

    public int setLevelling(int gain) {
        if (!Fixed.isBetween(gain, 0, MOST_GAIN)) {
            return INVALID;
        }
        return estimator.changeLevelling(gain);
    }

    public int setHeading(int gain) {
        if (!Fixed.isBetween(gain, 0, MOST_GAIN)) {
            return INVALID;
        }
        return estimator.changeHeading(gain);
    }

    public int startCalibration(int ticks) {
        if (!Fixed.isBetween(ticks, 1, MOST_CALIBRATION_TICKS)) {
            return INVALID;
        }
        if (estimator.calibration.isRunning()) {
            return BUSY;
        }
        estimator.calibration.start(ticks);
        return 0;
    }

    public int calibrationLeft() {
        return estimator.calibration.ticksLeft;
    }

    public long biasEstimate(int axis) {
        return Fixed.at(estimator.bias, axis);
    }

    public int setCompensation(int axis, int bin, int value) {
        if (!Fixed.isAxis(axis) || !CompensationTable.hasBin(bin) || !Fixed.isWithin(value, MOST_COMPENSATION)) {
            return INVALID;
        }
        table.put(axis, bin, value);
        return table.size;
    }

    public int learnCompensation() {
        if (estimator.calibration.isRunning()) {
            return BUSY;
        }
        table.absorb(estimator.bias, sensors.bin());
        return table.size;
    }

    public int compensation(int axis, int bin) {
        return table.value(axis, bin);
    }

    public int forgetBin(int bin) {
        return table.removeBin(bin);
    }

    public int turnEstimate(int x, int y, int z) {
        if (!isTurn(x, y, z)) {
            return INVALID;
        }
        estimator.attitude.turn(x, y, z);
        return 0;
    }

    // ---- results

    public long estimate(int k) {
        return Fixed.at(estimator.attitude.parts, k);
    }

    public long truth(int k) {
        return Fixed.at(trueAttitude.parts, k);
    }

    public long errorAngle() {
        return estimator.attitude.angleFrom(trueAttitude.parts);
    }

    public long greatestError() {
        return greatest;
    }

    public long tiltError() {
        trueAttitude.turnIntoBody(UPWARD, trueUp);
        estimator.attitude.turnIntoBody(UPWARD, estimatedUp);
        Fixed.cross(trueUp, estimatedUp, between);
        return Fixed.length(between[0] >> SHIFT, between[1] >> SHIFT, between[2] >> SHIFT);
    }

    public long toNavigation(int x, int y, int z, int axis) {
        if (!isUnitVector(x, y, z) || !Fixed.isAxis(axis)) {
            return 0;
        }
        return estimator.attitude.navigationComponent(x, y, z, axis);
    }

    public long toBody(int x, int y, int z, int axis) {
        if (!isUnitVector(x, y, z) || !Fixed.isAxis(axis)) {
            return 0;
        }
        return estimator.attitude.bodyComponent(x, y, z, axis);
    }

    public int visitedBins() {
        return Integer.bitCount(visited);
    }

    // ---- stored attitudes

    public int store(int number) {
        if (!Fixed.isBetween(number, 0, LAST_STORED_NUMBER)) {
            return INVALID;
        }
        return shelf.put(number, estimator.attitude);
    }

    public int recall(int number) {
        int place = shelf.placeOf(number);
        if (place == NONE) {
            return NONE;
        }
        estimator.attitude.set(shelf.at(place));
        return 0;
    }

    public int forget(int number) {
        int place = shelf.placeOf(number);
        if (place == NONE) {
            return NONE;
        }
        return shelf.remove(place);
    }

    public long angleTo(int number) {
        int place = shelf.placeOf(number);
        if (place == NONE) {
            return NONE;
        }
        return estimator.attitude.angleFrom(shelf.at(place));
    }

    public int storedNumber(int k) {
        return shelf.numberAt(k);
    }

    public int reset() {
        int before = now;
        now = 0;
        visited = 0;
        greatest = 0;
        Arrays.fill(earthRate, 0L);
        trueAttitude.align();
        script.empty();
        sensors.restore();
        table.empty();
        estimator.restore();
        shelf.empty();
        return before;
    }

    private static boolean isTurn(int x, int y, int z) {
        return Fixed.isWithin(x, MOST_TURN) && Fixed.isWithin(y, MOST_TURN) && Fixed.isWithin(z, MOST_TURN);
    }

    private static boolean isUnitVector(int x, int y, int z) {
        return Fixed.isWithin(x, ONE) && Fixed.isWithin(y, ONE) && Fixed.isWithin(z, ONE);
    }

    private void tick() {
        script.takeTick(rates);
        // The gyros sense the body before this tick's turn, the accelerometers after it.
        sensors.senseRates(rates, earthRate, trueAttitude);
        trueAttitude.turn(rates[0], rates[1], rates[2]);
        sensors.senseGravity(trueAttitude);
        estimator.follow(sensors, table, earthRate);
        now++;
        visited |= 1 << CompensationTable.column(sensors.bin());
        greatest = Math.max(greatest, errorAngle());
    }

    /** The arithmetic that the parts share. */
    private static final class Fixed {
        static boolean isAxis(int axis) {
            return axis >= 0 && axis < AXES;
        }

        static boolean isBetween(int value, int least, int most) {
            return value >= least && value <= most;
        }

        static boolean isWithin(long value, long limit) {
            return value >= -limit && value <= limit;
        }

        static long limited(long value, long limit) {
            return Math.max(-limit, Math.min(limit, value));
        }

        /** The document asks for 0 wherever an index names nothing. */
        static long at(long[] row, int index) {
            return index >= 0 && index < row.length ? row[index] : 0L;
        }

        static void cross(long[] a, long[] b, long[] product) {
            product[0] = a[1] * b[2] - a[2] * b[1];
            product[1] = a[2] * b[0] - a[0] * b[2];
            product[2] = a[0] * b[1] - a[1] * b[0];
        }

        static long length(long x, long y, long z) {
            return root(x * x + y * y + z * z);
        }

        /** Trials stay below 2^31, so that their squares fit a long. */
        static long root(long a) {
            long root = 0;
            for (int bit = 30; bit >= 0; bit--) {
                long trial = root + (1L << bit);
                if (trial * trial <= a) {
                    root = trial;
                }
            }
            return root;
        }
    }

    /** A quaternion with its matrix, which is made anew at every change. */
    private static final class Attitude {
        private final long[] parts = new long[PARTS];
        private final long[] step = new long[PARTS];
        private final long[] inverse = new long[PARTS];
        private final long[] product = new long[PARTS];
        private final long[][] matrix = new long[AXES][AXES];

        Attitude() {
            align();
        }

        void align() {
            Arrays.fill(parts, 0L);
            parts[0] = ONE;
            makeMatrix();
        }

        void set(long[] other) {
            System.arraycopy(other, 0, parts, 0, PARTS);
            makeMatrix();
        }

        void turn(long x, long y, long z) {
            long h0 = x >> 1;
            long h1 = y >> 1;
            long h2 = z >> 1;
            long n = (h0 * h0 + h1 * h1 + h2 * h2) >> SHIFT;
            multiplyBy(ONE - (n >> 1), ONE - Math.floorDiv(n, 6L), h0, h1, h2);
        }

        /** Turns without the second-order terms of sine and cosine. */
        void turnCoarsely(long x, long y, long z) {
            multiplyBy(ONE, ONE, x >> 1, y >> 1, z >> 1);
        }

        private void multiplyBy(long c, long s, long h0, long h1, long h2) {
            step[0] = c;
            step[1] = (h0 * s) >> SHIFT;
            step[2] = (h1 * s) >> SHIFT;
            step[3] = (h2 * s) >> SHIFT;
            multiply(parts, step, product);
            normalizeProduct();
            makeMatrix();
        }

        private void normalizeProduct() {
            long sum = 0;
            for (int k = 0; k < PARTS; k++) {
                sum += product[k] * product[k];
            }
            long factor = ONE + ((ONE - (sum >> SHIFT)) >> 1);
            for (int k = 0; k < PARTS; k++) {
                parts[k] = (product[k] * factor) >> SHIFT;
            }
        }

        private static void multiply(long[] p, long[] q, long[] product) {
            product[0] = (p[0] * q[0] - p[1] * q[1] - p[2] * q[2] - p[3] * q[3]) >> SHIFT;
            product[1] = (p[0] * q[1] + p[1] * q[0] + p[2] * q[3] - p[3] * q[2]) >> SHIFT;
            product[2] = (p[0] * q[2] - p[1] * q[3] + p[2] * q[0] + p[3] * q[1]) >> SHIFT;
            product[3] = (p[0] * q[3] + p[1] * q[2] - p[2] * q[1] + p[3] * q[0]) >> SHIFT;
        }

        private void makeMatrix() {
            long w = parts[0];
            long x = parts[1];
            long y = parts[2];
            long z = parts[3];
            matrix[0][0] = ONE - 2 * ((y * y + z * z) >> SHIFT);
            matrix[0][1] = 2 * ((x * y - w * z) >> SHIFT);
            matrix[0][2] = 2 * ((x * z + w * y) >> SHIFT);
            matrix[1][0] = 2 * ((x * y + w * z) >> SHIFT);
            matrix[1][1] = ONE - 2 * ((x * x + z * z) >> SHIFT);
            matrix[1][2] = 2 * ((y * z - w * x) >> SHIFT);
            matrix[2][0] = 2 * ((x * z - w * y) >> SHIFT);
            matrix[2][1] = 2 * ((y * z + w * x) >> SHIFT);
            matrix[2][2] = ONE - 2 * ((x * x + y * y) >> SHIFT);
        }

        long navigationComponent(long x, long y, long z, int axis) {
            if (!Fixed.isAxis(axis)) {
                return 0L;
            }
            return (matrix[axis][0] * x + matrix[axis][1] * y + matrix[axis][2] * z) >> SHIFT;
        }

        long bodyComponent(long x, long y, long z, int axis) {
            if (!Fixed.isAxis(axis)) {
                return 0L;
            }
            return (matrix[0][axis] * x + matrix[1][axis] * y + matrix[2][axis] * z) >> SHIFT;
        }

        void turnIntoBody(long[] navigation, long[] body) {
            for (int axis = 0; axis < AXES; axis++) {
                body[axis] = bodyComponent(navigation[0], navigation[1], navigation[2], axis);
            }
        }

        /** The order counts: each part of the product is rounded down. */
        long angleFrom(long[] other) {
            inverse[0] = other[0];
            inverse[1] = -other[1];
            inverse[2] = -other[2];
            inverse[3] = -other[3];
            multiply(inverse, parts, product);
            return 2 * Fixed.length(product[1], product[2], product[3]);
        }
    }

    /** The segments that the body has still to turn by, the present one first. */
    private static final class Script {
        private static final int MOST_SEGMENTS = 20;
        private final int[] ticks = new int[MOST_SEGMENTS];
        private final int[] x = new int[MOST_SEGMENTS];
        private final int[] y = new int[MOST_SEGMENTS];
        private final int[] z = new int[MOST_SEGMENTS];
        private int count;

        int append(int newTicks, int newX, int newY, int newZ) {
            if (count >= MOST_SEGMENTS) {
                return FULL;
            }
            ticks[count] = newTicks;
            x[count] = newX;
            y[count] = newY;
            z[count] = newZ;
            count++;
            return count;
        }

        int empty() {
            int removed = count;
            count = 0;
            return removed;
        }

        int ticksLeft() {
            int sum = 0;
            for (int k = 0; k < count; k++) {
                sum += ticks[k];
            }
            return sum;
        }

        void takeTick(long[] rates) {
            if (count == 0) {
                Arrays.fill(rates, 0L);
                return;
            }
            rates[0] = x[0];
            rates[1] = y[0];
            rates[2] = z[0];
            ticks[0]--;
            if (ticks[0] == 0) {
                removeFirst();
            }
        }

        private void removeFirst() {
            count--;
            System.arraycopy(ticks, 1, ticks, 0, count);
            System.arraycopy(x, 1, x, 0, count);
            System.arraycopy(y, 1, y, 0, count);
            System.arraycopy(z, 1, z, 0, count);
        }
    }

    /** The gyros and accelerometers with their errors, and what these depend on: temperature and noise. */
    private static final class Sensors {
        private static final int FIRST_TEMPERATURE = 25;
        private final int[] bias = new int[AXES];
        private final int[] scale = new int[AXES];
        private final int[] noise = new int[AXES];
        private final int[] slope = new int[AXES];
        private final int[] accelerometerBias = new int[AXES];
        private final long[] gyroReadings = new long[AXES];
        private final long[] accelerometerReadings = new long[AXES];
        private final long[] inBody = new long[AXES];
        private int temperature;
        private int seed;

        Sensors() {
            temperature = FIRST_TEMPERATURE;
        }

        void restore() {
            Arrays.fill(bias, 0);
            Arrays.fill(scale, 0);
            Arrays.fill(noise, 0);
            Arrays.fill(slope, 0);
            Arrays.fill(accelerometerBias, 0);
            Arrays.fill(gyroReadings, 0L);
            Arrays.fill(accelerometerReadings, 0L);
            temperature = FIRST_TEMPERATURE;
            seed = 0;
        }

        void setGyroErrors(int axis, int newBias, int newScale, int newNoise, int newSlope) {
            if (!Fixed.isAxis(axis)) {
                return;
            }
            bias[axis] = newBias;
            scale[axis] = newScale;
            noise[axis] = newNoise;
            slope[axis] = newSlope;
        }

        void setAccelerometerBias(int axis, int newBias) {
            if (Fixed.isAxis(axis)) {
                accelerometerBias[axis] = newBias;
            }
        }

        int changeTemperature(int next) {
            int before = temperature;
            temperature = next;
            return before;
        }

        int changeSeed(int next) {
            int before = seed;
            seed = next;
            return before;
        }

        int bin() {
            return Math.floorDiv(temperature, 10);
        }

        void senseRates(long[] rates, long[] earthRate, Attitude attitude) {
            attitude.turnIntoBody(earthRate, inBody);
            for (int axis = 0; axis < AXES; axis++) {
                long g = rates[axis] + inBody[axis];
                gyroReadings[axis] = g + Math.floorDiv(g * scale[axis], 1000000L) + bias[axis]
                        + Math.floorDiv(slope[axis] * (temperature - FIRST_TEMPERATURE), 10) + drawNoise(noise[axis]);
            }
        }

        /** A gyro without noise draws nothing, so that it leaves the state to the others. */
        private int drawNoise(int amplitude) {
            if (amplitude <= 0) {
                return 0;
            }
            seed = seed * 1103515245 + 12345;
            return (seed >>> 16) % (2 * amplitude + 1) - amplitude;
        }

        void senseGravity(Attitude attitude) {
            attitude.turnIntoBody(UPWARD, inBody);
            for (int axis = 0; axis < AXES; axis++) {
                accelerometerReadings[axis] = inBody[axis] + accelerometerBias[axis];
            }
        }
    }

    /** Values for pairs of an axis and a bin; a value of 0 that was set counts too. */
    private static final class CompensationTable {
        private static final int FIRST_BIN = -4;
        private static final int BINS = 13;
        private final int[] values = new int[AXES * BINS];
        private final boolean[] known = new boolean[AXES * BINS];
        private int size;

        static boolean hasBin(int bin) {
            return bin >= FIRST_BIN && bin < FIRST_BIN + BINS;
        }

        static int column(int bin) {
            return bin - FIRST_BIN;
        }

        /** NONE if the table has no place for the pair. */
        private static int placeOf(int axis, int bin) {
            return Fixed.isAxis(axis) && hasBin(bin) ? axis * BINS + column(bin) : NONE;
        }

        void put(int axis, int bin, int value) {
            int place = placeOf(axis, bin);
            if (place == NONE) {
                return;
            }
            values[place] = value;
            if (!known[place]) {
                known[place] = true;
                size++;
            }
        }

        /** What the table does not know stands as 0 in its row. */
        int value(int axis, int bin) {
            int place = placeOf(axis, bin);
            return place == NONE ? 0 : values[place];
        }

        void absorb(long[] bias, int bin) {
            for (int axis = 0; axis < AXES; axis++) {
                put(axis, bin, (int) Fixed.limited(value(axis, bin) + bias[axis], MOST_COMPENSATION));
                bias[axis] = 0;
            }
        }

        int removeBin(int bin) {
            int before = size;
            for (int axis = 0; axis < AXES; axis++) {
                int place = placeOf(axis, bin);
                if (place != NONE && known[place]) {
                    values[place] = 0;
                    known[place] = false;
                    size--;
                }
            }
            return before - size;
        }

        void empty() {
            for (int column = 0; column < BINS; column++) {
                removeBin(FIRST_BIN + column);
            }
        }
    }

    /** The sums of the gyros over the ticks of a calibration. */
    private static final class Calibration {
        private final long[] sums = new long[AXES];
        private int ticks;
        private int ticksLeft;

        boolean isRunning() {
            return ticksLeft > 0;
        }

        void start(int newTicks) {
            Arrays.fill(sums, 0L);
            ticks = newTicks;
            ticksLeft = newTicks;
        }

        void stop() {
            ticks = 0;
            ticksLeft = 0;
        }

        void add(int axis, long value) {
            if (isRunning() && Fixed.isAxis(axis)) {
                sums[axis] += value;
            }
        }

        /** Answers whether this tick was the calibration's last. */
        boolean endsWithThisTick() {
            if (!isRunning()) {
                return false;
            }
            ticksLeft--;
            return ticksLeft == 0;
        }

        long mean(int axis) {
            if (ticks <= 0 || !Fixed.isAxis(axis)) {
                return 0L;
            }
            return Math.floorDiv(sums[axis], (long) ticks);
        }
    }

    /** What the reference believes, and how it comes to believe it. */
    private static final class Estimator {
        private static final int FIRST_METHOD = 1;
        private static final long MOST_FILTERED_RATE = 262144L;
        private static final long MOST_HEADING_TURN = 16777216L;
        private final Attitude attitude = new Attitude();
        private final Calibration calibration = new Calibration();
        private final long[] bias = new long[AXES];
        private final long[] filtered = new long[AXES];
        private final long[] latestTurn = new long[AXES];
        private final long[] corrected = new long[AXES];
        private final long[] turn = new long[AXES];
        private final long[] inBody = new long[AXES];
        private final long[] product = new long[AXES];
        private int method;
        private int levelling;
        private int heading;

        Estimator() {
            method = FIRST_METHOD;
        }

        void restore() {
            attitude.align();
            calibration.stop();
            Arrays.fill(bias, 0L);
            Arrays.fill(filtered, 0L);
            Arrays.fill(latestTurn, 0L);
            method = FIRST_METHOD;
            levelling = 0;
            heading = 0;
        }

        int changeMethod(int next) {
            int before = method;
            method = next;
            return before;
        }

        int changeLevelling(int next) {
            int before = levelling;
            levelling = next;
            return before;
        }

        int changeHeading(int next) {
            int before = heading;
            if (before == 0 && next > 0) {
                Arrays.fill(filtered, 0L);
            }
            heading = next;
            return before;
        }

        void follow(Sensors sensors, CompensationTable table, long[] earthRate) {
            correct(sensors, table);
            propagate(earthRate);
            level(sensors.accelerometerReadings);
            seekNorth(earthRate);
            calibrate(earthRate);
        }

        private void correct(Sensors sensors, CompensationTable table) {
            int bin = sensors.bin();
            for (int axis = 0; axis < AXES; axis++) {
                long compensated = sensors.gyroReadings[axis] - table.value(axis, bin);
                calibration.add(axis, compensated);
                corrected[axis] = compensated - bias[axis];
            }
        }

        private void propagate(long[] earthRate) {
            attitude.turnIntoBody(earthRate, inBody);
            for (int axis = 0; axis < AXES; axis++) {
                turn[axis] = corrected[axis] - inBody[axis];
            }
            if (method == 0) {
                attitude.turnCoarsely(turn[0], turn[1], turn[2]);
            } else if (method == 1) {
                attitude.turn(turn[0], turn[1], turn[2]);
            } else {
                Fixed.cross(latestTurn, turn, product);
                attitude.turn(turn[0] + coning(product[0]), turn[1] + coning(product[1]), turn[2] + coning(product[2]));
            }
            System.arraycopy(turn, 0, latestTurn, 0, AXES);
        }

        private static long coning(long crossed) {
            return Math.floorDiv(crossed >> SHIFT, 12L);
        }

        private void level(long[] accelerometers) {
            if (levelling <= 0) {
                return;
            }
            attitude.turnIntoBody(UPWARD, inBody);
            Fixed.cross(accelerometers, inBody, product);
            int shift = SHIFT + levelling;
            attitude.turn(product[0] >> shift, product[1] >> shift, product[2] >> shift);
        }

        private void seekNorth(long[] earthRate) {
            long square = earthRate[0] * earthRate[0] + earthRate[2] * earthRate[2];
            if (heading <= 0 || square <= 0 || !isSlow()) {
                return;
            }
            for (int axis = 0; axis < AXES; axis++) {
                filtered[axis] += (corrected[axis] - filtered[axis]) >> 4;
            }
            attitude.turnIntoBody(earthRate, inBody);
            Fixed.cross(filtered, inBody, product);
            attitude.turn(headingTurn(product[0], square), headingTurn(product[1], square),
                    headingTurn(product[2], square));
        }

        private boolean isSlow() {
            for (int axis = 0; axis < AXES; axis++) {
                if (!Fixed.isWithin(corrected[axis], MOST_FILTERED_RATE)) {
                    return false;
                }
            }
            return true;
        }

        private long headingTurn(long crossed, long square) {
            if (square <= 0) {
                return 0L;
            }
            return Fixed.limited((Math.floorDiv(crossed << 20, square) << 8) >> heading, MOST_HEADING_TURN);
        }

        private void calibrate(long[] earthRate) {
            if (!calibration.endsWithThisTick()) {
                return;
            }
            attitude.turnIntoBody(earthRate, inBody);
            for (int axis = 0; axis < AXES; axis++) {
                bias[axis] = calibration.mean(axis) - inBody[axis];
            }
        }
    }

    /** Stored attitudes, in the order in which their numbers came. */
    private static final class AttitudeShelf {
        private static final int PLACES = 30;
        private final int[] numbers = new int[PLACES];
        private final long[] stored = new long[PLACES * PARTS];
        private final long[] picked = new long[PARTS];
        private int count;

        int placeOf(int number) {
            for (int place = 0; place < count; place++) {
                if (numbers[place] == number) {
                    return place;
                }
            }
            return NONE;
        }

        int numberAt(int place) {
            return place >= 0 && place < count ? numbers[place] : NONE;
        }

        int put(int number, Attitude attitude) {
            int place = placeOf(number);
            if (place == NONE) {
                if (count >= PLACES) {
                    return FULL;
                }
                place = count;
                numbers[place] = number;
                count++;
            }
            System.arraycopy(attitude.parts, 0, stored, place * PARTS, PARTS);
            return count;
        }

        /** The row is used again by the next call. */
        long[] at(int place) {
            if (place >= 0 && place < count) {
                System.arraycopy(stored, place * PARTS, picked, 0, PARTS);
            }
            return picked;
        }

        int remove(int place) {
            if (place >= 0 && place < count) {
                int behind = count - place - 1;
                System.arraycopy(numbers, place + 1, numbers, place, behind);
                System.arraycopy(stored, (place + 1) * PARTS, stored, place * PARTS, behind * PARTS);
                count--;
            }
            return count;
        }

        void empty() {
            count = 0;
        }
    }
}
