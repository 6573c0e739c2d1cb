import java.util.ArrayList;
import java.util.List;

/** Long runs of calls, made up by a fixed rule, on the class and on the model: every answer must be the same. */
public final class ModelTest {
    private static final int CALLS_OF_AN_OBJECT = 512;
    private static final int WRONG_ANSWERS_TOLD = 5;

    private interface Answer {
        long of(InertialReference r, int[] p);
    }

    /** The ranges are pairs of a least and a greatest value, one pair a parameter. */
    private static final class Call {
        final String name;
        final int weight;
        final Answer answer;
        final int[] ranges;

        Call(String name, int weight, Answer answer, int... ranges) {
            this.name = name;
            this.weight = weight;
            this.answer = answer;
            this.ranges = ranges;
        }
    }

    private long state;

    private ModelTest(long seed) {
        state = seed * 2654435761L + 88172645463325252L;
    }

    public static void main(String[] args) {
        int runs = args.length > 0 ? Integer.parseInt(args[0]) : 60;
        for (int seed = 1; seed <= runs; seed++) {
            long turn = seed % 2 == 0 ? 4000000 : 60000;
            compare("all " + seed, seed, everything((int) turn, 20));
            compare("motion " + seed, seed + 100000L, motion());
            compare("still " + seed, seed + 200000L, standstill());
            compare("shelf " + seed, seed + 300000L, shelf());
        }
        Check.end();
    }

    private static void compare(String run, long seed, List<Call> calls) {
        ModelTest made = new ModelTest(seed);
        InertialReference r = new InertialReference();
        Model model = new Model();
        int weights = 0;
        for (Call call : calls) {
            weights += call.weight;
        }
        int wrong = 0;
        for (int k = 0; k < CALLS_OF_AN_OBJECT && wrong < WRONG_ANSWERS_TOLD; k++) {
            Call call = pick(calls, made.below(weights));
            int[] p = new int[call.ranges.length / 2];
            StringBuilder text = new StringBuilder(run + ", call " + k + ": " + call.name + "(");
            for (int i = 0; i < p.length; i++) {
                p[i] = made.value(call.ranges[2 * i], call.ranges[2 * i + 1]);
                text.append(i == 0 ? "" : ", ").append(p[i]);
            }
            long got = call.answer.of(r, p);
            long want = model.call(call.name, p);
            wrong += got == want ? 0 : 1;
            Check.due(text + ")", got, want);
        }
    }

    private static Call pick(List<Call> calls, int ticket) {
        int left = ticket;
        for (Call call : calls) {
            left -= call.weight;
            if (left < 0) {
                return call;
            }
        }
        throw new IllegalStateException();
    }

    private int below(int n) {
        state ^= state << 13;
        state ^= state >>> 7;
        state ^= state << 17;
        return (int) Math.floorMod(state >>> 11, (long) n);
    }

    /** Mostly in the range, often at its ends, now and then outside; in wide ranges of every magnitude. */
    private int value(int low, int high) {
        int kind = below(60);
        if (kind == 0 && low > Integer.MIN_VALUE) {
            return low - 1;
        }
        if (kind == 1 && high < Integer.MAX_VALUE) {
            return high + 1;
        }
        if (kind == 2) {
            return below(2) == 0 ? Integer.MIN_VALUE : Integer.MAX_VALUE;
        }
        if (kind < 6) {
            return kind == 3 ? low : high;
        }
        long width = (long) high - low + 1;
        if (width <= 256) {
            return low + below((int) width);
        }
        int magnitude = 1 << below(31);
        long made = below(magnitude);
        made = low < 0 && below(2) == 0 ? -made : made;
        return made < low || made > high ? low + (int) (made % (width / 2) + width / 2) : (int) made;
    }

    private static List<Call> results(int weight) {
        int one = 268435456;
        List<Call> calls = new ArrayList<>();
        calls.add(new Call("time", weight, (r, p) -> r.time()));
        calls.add(new Call("gyro", 3 * weight, (r, p) -> r.gyro(p[0]), 0, 2));
        calls.add(new Call("accelerometer", 3 * weight, (r, p) -> r.accelerometer(p[0]), 0, 2));
        calls.add(new Call("biasEstimate", 3 * weight, (r, p) -> r.biasEstimate(p[0]), 0, 2));
        calls.add(new Call("calibrationLeft", weight, (r, p) -> r.calibrationLeft()));
        calls.add(new Call("compensation", 2 * weight, (r, p) -> r.compensation(p[0], p[1]), 0, 2, -4, 8));
        calls.add(new Call("estimate", 4 * weight, (r, p) -> r.estimate(p[0]), 0, 3));
        calls.add(new Call("truth", 4 * weight, (r, p) -> r.truth(p[0]), 0, 3));
        calls.add(new Call("errorAngle", 2 * weight, (r, p) -> r.errorAngle()));
        calls.add(new Call("greatestError", 2 * weight, (r, p) -> r.greatestError()));
        calls.add(new Call("tiltError", 2 * weight, (r, p) -> r.tiltError()));
        calls.add(new Call("toNavigation", 2 * weight, (r, p) -> r.toNavigation(p[0], p[1], p[2], p[3]),
                -one, one, -one, one, -one, one, 0, 2));
        calls.add(new Call("toBody", 2 * weight, (r, p) -> r.toBody(p[0], p[1], p[2], p[3]),
                -one, one, -one, one, -one, one, 0, 2));
        calls.add(new Call("visitedBins", weight, (r, p) -> r.visitedBins()));
        calls.add(new Call("scriptTicks", weight, (r, p) -> r.scriptTicks()));
        return calls;
    }

    private static List<Call> shelf() {
        List<Call> calls = results(1);
        calls.add(new Call("store", 60, (r, p) -> r.store(p[0]), 0, 40));
        calls.add(new Call("store", 3, (r, p) -> r.store(p[0]), 0, 999));
        calls.add(new Call("recall", 5, (r, p) -> r.recall(p[0]), 0, 40));
        calls.add(new Call("forget", 10, (r, p) -> r.forget(p[0]), 0, 40));
        calls.add(new Call("angleTo", 20, (r, p) -> r.angleTo(p[0]), 0, 40));
        calls.add(new Call("storedNumber", 20, (r, p) -> r.storedNumber(p[0]), 0, 30));
        calls.add(new Call("turnEstimate", 20, (r, p) -> r.turnEstimate(p[0], p[1], p[2]),
                -4000000, 4000000, -4000000, 4000000, -4000000, 4000000));
        calls.add(new Call("run", 2, (r, p) -> r.run(p[0]), 1, 10));
        calls.add(new Call("reset", 1, (r, p) -> r.reset()));
        return calls;
    }

    private static List<Call> motion() {
        int fast = 4000000;
        List<Call> calls = results(1);
        calls.add(new Call("addSegment", 12, (r, p) -> r.addSegment(p[0], p[1], p[2], p[3]),
                1, 60, -fast, fast, -fast, fast, -fast, fast));
        calls.add(new Call("addSegment", 3, (r, p) -> r.addSegment(p[0], p[1], p[2], p[3]),
                1, 1000, -fast, fast, -fast, fast, -fast, fast));
        calls.add(new Call("run", 8, (r, p) -> r.run(p[0]), 1, 40));
        calls.add(new Call("clearScript", 1, (r, p) -> r.clearScript()));
        calls.add(new Call("setMethod", 3, (r, p) -> r.setMethod(p[0]), 0, 2));
        calls.add(new Call("setEarthRate", 2, (r, p) -> r.setEarthRate(p[0], p[1]), -65536, 65536, -65536, 65536));
        calls.add(new Call("setLevelling", 1, (r, p) -> r.setLevelling(p[0]), 0, 20));
        return calls;
    }

    /** Slow enough for gyrocompassing to work. */
    private static List<Call> standstill() {
        int slow = 100000;
        List<Call> calls = everything(4000000, 2);
        calls.removeIf(call -> call.name.equals("addSegment") || call.name.equals("setCompensation"));
        calls.add(new Call("addSegment", 4, (r, p) -> r.addSegment(p[0], p[1], p[2], p[3]),
                1, 20, -slow, slow, -slow, slow, -slow, slow));
        calls.add(new Call("setCompensation", 4, (r, p) -> r.setCompensation(p[0], p[1], p[2]),
                0, 2, -4, 8, -slow, slow));
        calls.add(new Call("setHeading", 8, (r, p) -> r.setHeading(p[0]), 1, 9));
        calls.add(new Call("setEarthRate", 6, (r, p) -> r.setEarthRate(p[0], p[1]), -65536, 65536, -65536, 65536));
        calls.add(new Call("run", 40, (r, p) -> r.run(p[0]), 1, 20));
        return calls;
    }

    private static List<Call> everything(int turn, int rest) {
        int least = Integer.MIN_VALUE;
        int most = Integer.MAX_VALUE;
        List<Call> calls = results(4);
        calls.add(new Call("setGyro", 10, (r, p) -> r.setGyro(p[0], p[1], p[2], p[3], p[4]),
                0, 2, -100000, 100000, -10000, 10000, 0, 10000, -1000, 1000));
        calls.add(new Call("setAccelerometer", 6, (r, p) -> r.setAccelerometer(p[0], p[1]), 0, 2, -10000000, 10000000));
        calls.add(new Call("setEarthRate", 6, (r, p) -> r.setEarthRate(p[0], p[1]), -65536, 65536, -65536, 65536));
        calls.add(new Call("setTemperature", 6, (r, p) -> r.setTemperature(p[0]), -40, 85));
        calls.add(new Call("setSeed", 2, (r, p) -> r.setSeed(p[0]), least, most));
        calls.add(new Call("addSegment", 8, (r, p) -> r.addSegment(p[0], p[1], p[2], p[3]),
                1, 100, -turn, turn, -turn, turn, -turn, turn));
        calls.add(new Call("clearScript", 1, (r, p) -> r.clearScript()));
        calls.add(new Call("turnTruth", 5, (r, p) -> r.turnTruth(p[0], p[1], p[2]),
                -4000000, 4000000, -4000000, 4000000, -4000000, 4000000));
        calls.add(new Call("run", 30, (r, p) -> r.run(p[0]), 1, 15));
        calls.add(new Call("run", 2, (r, p) -> r.run(p[0]), 1, 200));
        calls.add(new Call("setMethod", 5, (r, p) -> r.setMethod(p[0]), 0, 2));
        calls.add(new Call("setLevelling", 5, (r, p) -> r.setLevelling(p[0]), 0, 20));
        calls.add(new Call("setHeading", 5, (r, p) -> r.setHeading(p[0]), 0, 20));
        calls.add(new Call("startCalibration", 8, (r, p) -> r.startCalibration(p[0]), 1, 40));
        calls.add(new Call("startCalibration", 1, (r, p) -> r.startCalibration(p[0]), 1, 1000));
        calls.add(new Call("setCompensation", 8, (r, p) -> r.setCompensation(p[0], p[1], p[2]),
                0, 2, -4, 8, -1000000, 1000000));
        calls.add(new Call("learnCompensation", 6, (r, p) -> r.learnCompensation()));
        calls.add(new Call("forgetBin", 3, (r, p) -> r.forgetBin(p[0]), -4, 8));
        calls.add(new Call("turnEstimate", 5, (r, p) -> r.turnEstimate(p[0], p[1], p[2]),
                -4000000, 4000000, -4000000, 4000000, -4000000, 4000000));
        calls.add(new Call("store", rest, (r, p) -> r.store(p[0]), 0, 999));
        calls.add(new Call("recall", rest, (r, p) -> r.recall(p[0]), 0, 40));
        calls.add(new Call("forget", 1, (r, p) -> r.forget(p[0]), 0, 40));
        calls.add(new Call("angleTo", rest, (r, p) -> r.angleTo(p[0]), 0, 40));
        calls.add(new Call("storedNumber", rest, (r, p) -> r.storedNumber(p[0]), 0, 30));
        calls.add(new Call("reset", 1, (r, p) -> r.reset()));
        return calls;
    }
}
