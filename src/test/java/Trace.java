import java.util.ArrayList;
import java.util.List;

/**
 * All that an object answers, and what it does in its next ticks: two objects in one state leave the same lines.
 * It takes some 350 calls, so that an object may have had 160 before its 512th.
 */
final class Trace {
    private static final int[] TICKS = {1, 1, 2, 3, 5, 8, 13, 21, 34, 55};
    private final InertialReference r;
    private final List<String> lines = new ArrayList<>();

    private Trace(InertialReference r) {
        this.r = r;
    }

    /** Tells the first line in which the two objects differ. */
    static void same(String what, InertialReference got, InertialReference want) {
        List<String> gotLines = new Trace(got).whole();
        List<String> wantLines = new Trace(want).whole();
        int k = 0;
        while (k < gotLines.size() - 1 && k < wantLines.size() - 1 && gotLines.get(k).equals(wantLines.get(k))) {
            k++;
        }
        boolean same = gotLines.equals(wantLines);
        Check.holds(same ? what : what + ": " + gotLines.get(k) + ", due is " + wantLines.get(k), same);
    }

    private List<String> whole() {
        results();
        table();
        shelf();
        for (int ticks : TICKS) {
            nextTicks(ticks);
        }
        results();
        shelf();
        settings();
        sensorErrors();
        return lines;
    }

    private void tell(String call, long answer) {
        lines.add(call + " answered " + answer);
    }

    private void results() {
        for (int axis = 0; axis < 3; axis++) {
            tell("accelerometer(" + axis + ")", r.accelerometer(axis));
            tell("biasEstimate(" + axis + ")", r.biasEstimate(axis));
            tell("truth(" + axis + ")", r.truth(axis));
            tell("toBody(.., " + axis + ")", r.toBody(100000000, -200000000, 50000000, axis));
        }
        tell("time", r.time());
        tell("greatestError", r.greatestError());
        tell("errorAngle", r.errorAngle());
        tell("tiltError", r.tiltError());
        tell("visitedBins", r.visitedBins());
        stateOfTicks();
    }

    private void stateOfTicks() {
        for (int k = 0; k < 4; k++) {
            tell("estimate(" + k + ")", r.estimate(k));
        }
        for (int axis = 0; axis < 3; axis++) {
            tell("gyro(" + axis + ")", r.gyro(axis));
        }
        tell("scriptTicks", r.scriptTicks());
        tell("calibrationLeft", r.calibrationLeft());
    }

    private void table() {
        for (int axis = 0; axis < 3; axis++) {
            for (int bin = -4; bin <= 8; bin++) {
                tell("compensation(" + axis + ", " + bin + ")", r.compensation(axis, bin));
            }
        }
    }

    private void shelf() {
        int number = 0;
        for (int k = 0; k <= 30 && number >= 0; k++) {
            number = r.storedNumber(k);
            tell("storedNumber(" + k + ")", number);
            tell("angleTo(" + number + ")", r.angleTo(number));
        }
    }

    private void nextTicks(int ticks) {
        tell("run(" + ticks + ")", r.run(ticks));
        stateOfTicks();
    }

    private void settings() {
        tell("setTemperature", r.setTemperature(85));
        tell("setSeed", r.setSeed(0));
        tell("setMethod", r.setMethod(1));
        tell("setLevelling", r.setLevelling(0));
        tell("setHeading", r.setHeading(0));
        tell("clearScript", r.clearScript());
        tell("values in the table", r.setCompensation(0, 0, 0));
        for (int bin = -4; bin <= 8; bin++) {
            tell("forgetBin(" + bin + ")", r.forgetBin(bin));
        }
    }

    /** At 85 degrees and with a rate on every axis, slope and scale show too. */
    private void sensorErrors() {
        tell("addSegment", r.addSegment(1, 1000000, 2000000, 3000000));
        nextTicks(1);
    }
}
