import java.math.BigInteger;
import java.util.ArrayDeque;
import java.util.HashMap;
import java.util.LinkedHashMap;
import java.util.Map;
import java.util.TreeSet;

/**
 * The document told a second time, with the Java library and with whole numbers of any size, so that
 * neither the class's rows nor its long arithmetic can hide a fault. It is slow and makes new rows all the time.
 */
final class Model {
    private static final BigInteger ONE = BigInteger.ONE.shiftLeft(28);
    private static final BigInteger[] UP = vector(0, 0, -(1L << 28));

    private BigInteger[] truth;
    private BigInteger[] estimate;
    private BigInteger[] earth;
    private int time;
    private int temperature;
    private int seed;
    private int[][] gyroErrors;
    private int[] accelerometerBias;
    private BigInteger[] gyros;
    private BigInteger[] accelerometers;
    private ArrayDeque<int[]> script;
    private BigInteger[] bias;
    private Map<Integer, Integer> table;
    private BigInteger[] filtered;
    private BigInteger[] latest;
    private int method;
    private int levelling;
    private int heading;
    private int calibrationTicks;
    private int calibrationLeft;
    private BigInteger[] calibrationSums;
    private TreeSet<Integer> bins;
    private BigInteger greatest;
    private LinkedHashMap<Integer, BigInteger[]> stored;

    Model() {
        begin();
    }

    private void begin() {
        truth = new BigInteger[] {ONE, big(0), big(0), big(0)};
        estimate = truth;
        earth = vector(0, 0, 0);
        time = 0;
        temperature = 25;
        seed = 0;
        gyroErrors = new int[3][4];
        accelerometerBias = new int[3];
        gyros = vector(0, 0, 0);
        accelerometers = vector(0, 0, 0);
        script = new ArrayDeque<>();
        bias = vector(0, 0, 0);
        table = new HashMap<>();
        filtered = vector(0, 0, 0);
        latest = vector(0, 0, 0);
        method = 1;
        levelling = 0;
        heading = 0;
        calibrationTicks = 0;
        calibrationLeft = 0;
        calibrationSums = vector(0, 0, 0);
        bins = new TreeSet<>();
        greatest = big(0);
        stored = new LinkedHashMap<>();
    }

    /** A call by its name: what the document says it answers. */
    long call(String name, int[] p) {
        switch (name) {
            case "setGyro":
                if (out(p[0], 0, 2) || out(p[1], -100000, 100000) || out(p[2], -10000, 10000)
                        || out(p[3], 0, 10000) || out(p[4], -1000, 1000)) {
                    return -2;
                }
                gyroErrors[p[0]] = new int[] {p[1], p[2], p[3], p[4]};
                return 0;
            case "setAccelerometer":
                if (out(p[0], 0, 2) || out(p[1], -10000000, 10000000)) {
                    return -2;
                }
                accelerometerBias[p[0]] = p[1];
                return 0;
            case "setEarthRate":
                if (out(p[0], -65536, 65536) || out(p[1], -65536, 65536)) {
                    return -2;
                }
                earth = vector(p[0], 0, p[1]);
                return 0;
            case "setTemperature": {
                if (out(p[0], -40, 85)) {
                    return -1000;
                }
                int before = temperature;
                temperature = p[0];
                return before;
            }
            case "setSeed": {
                int before = seed;
                seed = p[0];
                return before;
            }
            case "addSegment":
                if (out(p[0], 1, 1000) || badTurn(p[1], p[2], p[3])) {
                    return -2;
                }
                if (script.size() == 20) {
                    return -3;
                }
                script.addLast(p.clone());
                return script.size();
            case "clearScript": {
                int removed = script.size();
                script.clear();
                return removed;
            }
            case "scriptTicks":
                return script.stream().mapToInt(s -> s[0]).sum();
            case "turnTruth":
                if (badTurn(p[0], p[1], p[2])) {
                    return -2;
                }
                truth = turned(truth, vector(p[0], p[1], p[2]), true);
                return 0;
            case "run":
                if (out(p[0], 1, 200) || time + p[0] > 100000) {
                    return -2;
                }
                for (int k = 0; k < p[0]; k++) {
                    tick();
                }
                return time;
            case "time":
                return time;
            case "gyro":
                return component(gyros, p[0]);
            case "accelerometer":
                return component(accelerometers, p[0]);
            default:
                return callEstimator(name, p);
        }
    }

    private long callEstimator(String name, int[] p) {
        switch (name) {
            case "setMethod": {
                if (out(p[0], 0, 2)) {
                    return -2;
                }
                int before = method;
                method = p[0];
                return before;
            }
            case "setLevelling": {
                if (out(p[0], 0, 20)) {
                    return -2;
                }
                int before = levelling;
                levelling = p[0];
                return before;
            }
            case "setHeading": {
                if (out(p[0], 0, 20)) {
                    return -2;
                }
                int before = heading;
                heading = p[0];
                if (before == 0 && heading != 0) {
                    filtered = vector(0, 0, 0);
                }
                return before;
            }
            case "startCalibration":
                if (out(p[0], 1, 1000)) {
                    return -2;
                }
                if (calibrationLeft != 0) {
                    return -4;
                }
                calibrationTicks = p[0];
                calibrationLeft = p[0];
                calibrationSums = vector(0, 0, 0);
                return 0;
            case "calibrationLeft":
                return calibrationLeft;
            case "biasEstimate":
                return component(bias, p[0]);
            case "setCompensation":
                if (out(p[0], 0, 2) || out(p[1], -4, 8) || out(p[2], -1000000, 1000000)) {
                    return -2;
                }
                table.put(p[1] * 10 + p[0], p[2]);
                return table.size();
            case "learnCompensation":
                if (calibrationLeft != 0) {
                    return -4;
                }
                for (int axis = 0; axis < 3; axis++) {
                    BigInteger sum = big(tableValue(axis, bin())).add(bias[axis]);
                    table.put(bin() * 10 + axis, sum.min(big(1000000)).max(big(-1000000)).intValueExact());
                }
                bias = vector(0, 0, 0);
                return table.size();
            case "compensation":
                return out(p[0], 0, 2) || out(p[1], -4, 8) ? 0 : tableValue(p[0], p[1]);
            case "forgetBin": {
                int before = table.size();
                if (!out(p[0], -4, 8)) {
                    table.keySet().removeIf(key -> Math.floorDiv(key, 10) == p[0]);
                }
                return before - table.size();
            }
            case "turnEstimate":
                if (badTurn(p[0], p[1], p[2])) {
                    return -2;
                }
                estimate = turned(estimate, vector(p[0], p[1], p[2]), true);
                return 0;
            default:
                return callResults(name, p);
        }
    }

    private long callResults(String name, int[] p) {
        switch (name) {
            case "estimate":
                return component(estimate, p[0]);
            case "truth":
                return component(truth, p[0]);
            case "errorAngle":
                return angle(truth, estimate).longValueExact();
            case "greatestError":
                return greatest.longValueExact();
            case "tiltError":
                return length(shifted(cross(toBody(truth, UP), toBody(estimate, UP)), 28)).longValueExact();
            case "toNavigation":
                return badUnit(p) ? 0 : toNavigation(estimate, vector(p[0], p[1], p[2]))[p[3]].longValueExact();
            case "toBody":
                return badUnit(p) ? 0 : toBody(estimate, vector(p[0], p[1], p[2]))[p[3]].longValueExact();
            case "visitedBins":
                return bins.size();
            case "store":
                if (out(p[0], 0, 999)) {
                    return -2;
                }
                if (stored.size() == 30 && !stored.containsKey(p[0])) {
                    return -3;
                }
                stored.put(p[0], estimate);
                return stored.size();
            case "recall":
                if (!stored.containsKey(p[0])) {
                    return -1;
                }
                estimate = stored.get(p[0]);
                return 0;
            case "forget":
                return stored.remove(p[0]) == null ? -1 : stored.size();
            case "angleTo":
                return stored.containsKey(p[0]) ? angle(stored.get(p[0]), estimate).longValueExact() : -1;
            case "storedNumber":
                return p[0] < 0 || p[0] >= stored.size() ? -1 : stored.keySet().stream().skip(p[0]).findFirst().get();
            case "reset": {
                int before = time;
                begin();
                return before;
            }
            default:
                throw new IllegalArgumentException(name);
        }
    }

    private void tick() {
        int[] segment = script.peekFirst();
        BigInteger[] w = segment == null ? vector(0, 0, 0) : vector(segment[1], segment[2], segment[3]);
        if (segment != null && --segment[0] == 0) {
            script.removeFirst();
        }
        BigInteger[] g = plus(w, toBody(truth, earth));
        for (int axis = 0; axis < 3; axis++) {
            gyros[axis] = reading(g[axis], gyroErrors[axis]);
        }
        truth = turned(truth, w, true);
        accelerometers = plus(toBody(truth, UP), vector(accelerometerBias[0], accelerometerBias[1], accelerometerBias[2]));

        BigInteger[] k = minus(gyros, vector(tableValue(0, bin()), tableValue(1, bin()), tableValue(2, bin())));
        if (calibrationLeft > 0) {
            calibrationSums = plus(calibrationSums, k);
        }
        BigInteger[] c = minus(k, bias);
        propagate(minus(c, toBody(estimate, earth)));
        if (levelling > 0) {
            estimate = turned(estimate, shifted(cross(accelerometers, toBody(estimate, UP)), 28 + levelling), true);
        }
        gyrocompass(c);
        if (calibrationLeft > 0) {
            calibrationLeft--;
            if (calibrationLeft == 0) {
                BigInteger ticks = big(calibrationTicks);
                BigInteger[] s = calibrationSums;
                BigInteger[] mean = {quotient(s[0], ticks), quotient(s[1], ticks), quotient(s[2], ticks)};
                bias = minus(mean, toBody(estimate, earth));
            }
        }
        time++;
        bins.add(bin());
        greatest = greatest.max(angle(truth, estimate));
    }

    private BigInteger reading(BigInteger g, int[] errors) {
        int d = 0;
        if (errors[2] != 0) {
            seed = seed * 1103515245 + 12345;
            d = (seed >>> 16) % (2 * errors[2] + 1) - errors[2];
        }
        return g.add(quotient(g.multiply(big(errors[1])), big(1000000))).add(big(errors[0]))
                .add(quotient(big((long) errors[3] * (temperature - 25)), big(10))).add(big(d));
    }

    private void propagate(BigInteger[] v) {
        BigInteger[] by = v;
        if (method == 2) {
            BigInteger[] coned = shifted(cross(latest, v), 28);
            for (int axis = 0; axis < 3; axis++) {
                coned[axis] = quotient(coned[axis], big(12));
            }
            by = plus(v, coned);
        }
        estimate = turned(estimate, by, method != 0);
        latest = v;
    }

    private void gyrocompass(BigInteger[] c) {
        boolean still = heading > 0 && (earth[0].signum() != 0 || earth[2].signum() != 0);
        for (int axis = 0; axis < 3; axis++) {
            still = still && c[axis].abs().compareTo(big(262144)) <= 0;
        }
        if (!still) {
            return;
        }
        filtered = plus(filtered, shifted(minus(c, filtered), 4));
        BigInteger square = earth[0].multiply(earth[0]).add(earth[2].multiply(earth[2]));
        BigInteger[] by = cross(filtered, toBody(estimate, earth));
        for (int axis = 0; axis < 3; axis++) {
            by[axis] = quotient(by[axis].shiftLeft(20), square).shiftLeft(8).shiftRight(heading)
                    .min(big(16777216)).max(big(-16777216));
        }
        estimate = turned(estimate, by, true);
    }

    private int bin() {
        return Math.floorDiv(temperature, 10);
    }

    private int tableValue(int axis, int bin) {
        return table.getOrDefault(bin * 10 + axis, 0);
    }

    private static boolean out(int value, int low, int high) {
        return value < low || value > high;
    }

    private static boolean badTurn(int x, int y, int z) {
        return out(x, -4000000, 4000000) || out(y, -4000000, 4000000) || out(z, -4000000, 4000000);
    }

    private static boolean badUnit(int[] p) {
        int one = 268435456;
        return out(p[0], -one, one) || out(p[1], -one, one) || out(p[2], -one, one) || out(p[3], 0, 2);
    }

    private static long component(BigInteger[] row, int k) {
        return k < 0 || k >= row.length ? 0 : row[k].longValueExact();
    }

    private static BigInteger big(long value) {
        return BigInteger.valueOf(value);
    }

    private static BigInteger[] vector(long x, long y, long z) {
        return new BigInteger[] {big(x), big(y), big(z)};
    }

    /** Rounded down for either sign; the divisor is above 0. */
    private static BigInteger quotient(BigInteger a, BigInteger n) {
        return a.subtract(a.mod(n)).divide(n);
    }

    private static BigInteger[] plus(BigInteger[] a, BigInteger[] b) {
        return new BigInteger[] {a[0].add(b[0]), a[1].add(b[1]), a[2].add(b[2])};
    }

    private static BigInteger[] minus(BigInteger[] a, BigInteger[] b) {
        return new BigInteger[] {a[0].subtract(b[0]), a[1].subtract(b[1]), a[2].subtract(b[2])};
    }

    private static BigInteger[] shifted(BigInteger[] a, int n) {
        return new BigInteger[] {a[0].shiftRight(n), a[1].shiftRight(n), a[2].shiftRight(n)};
    }

    private static BigInteger[] cross(BigInteger[] a, BigInteger[] b) {
        BigInteger[] c = new BigInteger[3];
        for (int i = 0; i < 3; i++) {
            int j = (i + 1) % 3;
            int k = (i + 2) % 3;
            c[i] = a[j].multiply(b[k]).subtract(a[k].multiply(b[j]));
        }
        return c;
    }

    private static BigInteger length(BigInteger[] v) {
        return v[0].pow(2).add(v[1].pow(2)).add(v[2].pow(2)).sqrt();
    }

    /** Hamilton's rule by its units: scalar parts, and the cross product of the vector parts. */
    private static BigInteger[] times(BigInteger[] p, BigInteger[] q) {
        BigInteger[] a = {p[1], p[2], p[3]};
        BigInteger[] b = {q[1], q[2], q[3]};
        BigInteger[] crossed = cross(a, b);
        BigInteger[] product = new BigInteger[4];
        product[0] = p[0].multiply(q[0]);
        for (int i = 0; i < 3; i++) {
            product[0] = product[0].subtract(a[i].multiply(b[i]));
            product[i + 1] = p[0].multiply(b[i]).add(a[i].multiply(q[0])).add(crossed[i]).shiftRight(28);
        }
        product[0] = product[0].shiftRight(28);
        return product;
    }

    private static BigInteger[] turned(BigInteger[] q, BigInteger[] v, boolean fine) {
        BigInteger[] h = shifted(v, 1);
        BigInteger n = h[0].pow(2).add(h[1].pow(2)).add(h[2].pow(2)).shiftRight(28);
        BigInteger c = fine ? ONE.subtract(n.shiftRight(1)) : ONE;
        BigInteger s = fine ? ONE.subtract(quotient(n, big(6))) : ONE;
        BigInteger[] step = {c, h[0].multiply(s).shiftRight(28), h[1].multiply(s).shiftRight(28),
            h[2].multiply(s).shiftRight(28)};
        BigInteger[] product = times(q, step);
        BigInteger m = big(0);
        for (BigInteger part : product) {
            m = m.add(part.pow(2));
        }
        BigInteger f = ONE.add(ONE.subtract(m.shiftRight(28)).shiftRight(1));
        for (int k = 0; k < 4; k++) {
            product[k] = product[k].multiply(f).shiftRight(28);
        }
        return product;
    }

    /** For tests by hand: a quaternion's parts after a turn, by method 1 (fine) or 0. */
    static long[] turnedParts(long[] parts, long x, long y, long z, boolean fine) {
        BigInteger[] q = {big(parts[0]), big(parts[1]), big(parts[2]), big(parts[3])};
        return numbers(turned(q, vector(x, y, z), fine));
    }

    /** For tests by hand: a navigation vector, seen from a body with this attitude. */
    static long[] inBody(long[] parts, long x, long y, long z) {
        BigInteger[] q = {big(parts[0]), big(parts[1]), big(parts[2]), big(parts[3])};
        return numbers(toBody(q, vector(x, y, z)));
    }

    private static long[] numbers(BigInteger[] row) {
        long[] numbers = new long[row.length];
        for (int k = 0; k < row.length; k++) {
            numbers[k] = row[k].longValueExact();
        }
        return numbers;
    }

    private static BigInteger angle(BigInteger[] p, BigInteger[] q) {
        BigInteger[] product = times(new BigInteger[] {p[0], p[1].negate(), p[2].negate(), p[3].negate()}, q);
        return length(new BigInteger[] {product[1], product[2], product[3]}).shiftLeft(1);
    }

    /** Off the diagonal, rij and rji differ by the sign of w times the axis that is neither i nor j. */
    private static BigInteger[][] matrix(BigInteger[] q) {
        BigInteger[][] r = new BigInteger[3][3];
        for (int i = 0; i < 3; i++) {
            int j = (i + 1) % 3;
            int k = (i + 2) % 3;
            r[i][i] = ONE.subtract(q[j + 1].pow(2).add(q[k + 1].pow(2)).shiftRight(28).shiftLeft(1));
            BigInteger both = q[i + 1].multiply(q[j + 1]);
            BigInteger turn = q[0].multiply(q[k + 1]);
            r[i][j] = both.subtract(turn).shiftRight(28).shiftLeft(1);
            r[j][i] = both.add(turn).shiftRight(28).shiftLeft(1);
        }
        return r;
    }

    private static BigInteger[] toNavigation(BigInteger[] q, BigInteger[] v) {
        BigInteger[][] r = matrix(q);
        BigInteger[] n = new BigInteger[3];
        for (int i = 0; i < 3; i++) {
            n[i] = r[i][0].multiply(v[0]).add(r[i][1].multiply(v[1])).add(r[i][2].multiply(v[2])).shiftRight(28);
        }
        return n;
    }

    private static BigInteger[] toBody(BigInteger[] q, BigInteger[] v) {
        BigInteger[][] r = matrix(q);
        BigInteger[] b = new BigInteger[3];
        for (int j = 0; j < 3; j++) {
            b[j] = r[0][j].multiply(v[0]).add(r[1][j].multiply(v[1])).add(r[2][j].multiply(v[2])).shiftRight(28);
        }
        return b;
    }
}
