/** Promises 26 to 33: results. */
public final class ResultsTest {
    private static final int ONE = 268435456;
    private static final int[] NO_AXES = {-1, 3, Integer.MIN_VALUE, Integer.MAX_VALUE};
    private static final int[] NO_PARTS = {-1, 4, Integer.MIN_VALUE, Integer.MAX_VALUE};

    public static void main(String[] args) {
        promise26Estimate();
        promise27Truth();
        promise28ErrorAngle();
        promise29GreatestError();
        promise30TiltError();
        promise31ToNavigation();
        promise31And32Ranges();
        promise32ToBody();
        promise33VisitedBins();
        Check.end();
    }

    /** Turning by one small axis alone leaves half the angle on it. */
    private static void promise26Estimate() {
        InertialReference r = new InertialReference();
        Check.due("estimate(0) at first", r.estimate(0), ONE);
        r.turnEstimate(2000, 0, 0);
        Check.due("estimate(1)", r.estimate(1), 1000);
        r.turnEstimate(0, 4000, 0);
        Check.due("estimate(2)", r.estimate(2), 2000);
        r.turnEstimate(0, 0, 6000);
        Check.due("estimate(3)", r.estimate(3), 3000);
        for (int k : NO_PARTS) {
            Check.due("estimate(" + k + ")", r.estimate(k), 0);
        }
        Check.due("truth(3) beside", r.truth(3), 0);
    }

    private static void promise27Truth() {
        InertialReference r = new InertialReference();
        Check.due("truth(0) at first", r.truth(0), ONE);
        r.turnTruth(2000, 0, 0);
        Check.due("truth(1)", r.truth(1), 1000);
        r.turnTruth(0, 4000, 0);
        Check.due("truth(2)", r.truth(2), 2000);
        r.turnTruth(0, 0, 6000);
        Check.due("truth(3)", r.truth(3), 3000);
        for (int k : NO_PARTS) {
            Check.due("truth(" + k + ")", r.truth(k), 0);
        }
        Check.due("estimate(3) beside", r.estimate(3), 0);
    }

    private static void promise28ErrorAngle() {
        InertialReference r = new InertialReference();
        r.turnEstimate(3000, 4000, 0);
        Check.holds("errorAngle of 3000 and 4000: " + r.errorAngle(), Math.abs(r.errorAngle() - 5000) <= 4);
        r.turnTruth(3000, 4000, 0);
        Check.due("errorAngle of the same attitude", r.errorAngle(), 0);
        // By hand: the parts are (ONE, 1, 0, 0) and (ONE, 0, 0, 0), so that the product's part 1 is -1.
        InertialReference least = new InertialReference();
        least.turnTruth(2, 0, 0);
        Check.due("errorAngle of 1 part", least.errorAngle(), 2);
        InertialReference odd = new InertialReference();
        odd.turnTruth(2, 2, 0);
        Check.due("the root of 2 is rounded down", odd.errorAngle(), 2);
        odd.turnTruth(2, 2, 0);
        Check.due("the root of 8 is rounded down", odd.errorAngle(), 4);
    }

    private static void promise29GreatestError() {
        InertialReference r = new InertialReference();
        r.turnEstimate(10000, 0, 0);
        Check.due("greatestError before a tick", r.greatestError(), 0);
        r.turnEstimate(-8000, 0, 0);
        long now = r.errorAngle();
        r.run(1);
        Check.due("greatestError looks at a tick's end", r.greatestError(), now);
        r.turnEstimate(4000, 0, 0);
        long most = r.errorAngle();
        r.run(1);
        Check.due("greatestError grows", r.greatestError(), most);
        r.turnEstimate(-5000, 0, 0);
        r.run(5);
        Check.due("greatestError stays", r.greatestError(), most);

        // The greatest of the ticks inside one run.
        InertialReference swung = new InertialReference();
        swung.setGyro(0, 0, 10000, 0, 0);
        swung.addSegment(10, 100000, 0, 0);
        swung.addSegment(10, -100000, 0, 0);
        swung.run(20);
        Check.holds("errorAngle after the swing: " + swung.errorAngle(), swung.errorAngle() < 100);
        Check.holds("greatestError of the swing: " + swung.greatestError(),
                Math.abs(swung.greatestError() - 10000) < 100);
    }

    private static void promise30TiltError() {
        InertialReference r = new InertialReference();
        r.turnEstimate(0, 0, 4000000);
        Check.due("heading is no tilt", r.tiltError(), 0);
        Check.holds("though it is an error", r.errorAngle() > 3990000);
        r = new InertialReference();
        r.turnEstimate(1000000, 0, 0);
        Check.due("tilt of the estimate", r.tiltError(), 999994);
        r.turnTruth(1000000, 0, 0);
        Check.due("tilt of both", r.tiltError(), 0);
        r.turnTruth(0, 2000, 0);
        Check.holds("tilt about y: " + r.tiltError(), Math.abs(r.tiltError() - 2000) <= 4);
    }

    /** A quarter turn about z in 100 ticks: forward becomes east, and east becomes south. */
    private static InertialReference headingEast() {
        InertialReference r = new InertialReference();
        r.addSegment(100, 0, 0, 4000000);
        r.addSegment(1, 0, 0, 3574373);
        r.addSegment(5, 0, 0, 3616428);
        r.run(106);
        return r;
    }

    private static void near(String call, long got, long want) {
        Check.holds(call + " answered " + got + ", about " + want, Math.abs(got - want) < 2000);
    }

    private static void promise31ToNavigation() {
        InertialReference r = new InertialReference();
        Check.due("x of a level body", r.toNavigation(ONE, 7, -9, 0), ONE);
        Check.due("y of a level body", r.toNavigation(ONE, 7, -9, 1), 7);
        Check.due("z of a level body", r.toNavigation(ONE, 7, -9, 2), -9);
        InertialReference east = headingEast();
        near("forward's north", east.toNavigation(ONE, 0, 0, 0), 0);
        near("forward's east", east.toNavigation(ONE, 0, 0, 1), ONE);
        near("right's north", east.toNavigation(0, ONE, 0, 0), -ONE);
        near("right's east", east.toNavigation(0, ONE, 0, 1), 0);
        Check.due("down stays down", east.toNavigation(0, 0, -ONE, 2), -ONE);
        // The estimate's matrix, not the truth's.
        InertialReference estimate = new InertialReference();
        estimate.turnTruth(4000000, 4000000, 4000000);
        Check.due("the truth turns no vector", estimate.toNavigation(1, 2, 3, 2), 3);
        estimate.turnEstimate(0, 0, 2000000);
        long w = estimate.estimate(0);
        long z = estimate.estimate(3);
        Check.due("r10 by hand", estimate.toNavigation(ONE, 0, 0, 1), 2 * ((w * z) >> 28));
        Check.due("r01 by hand", estimate.toNavigation(0, ONE, 0, 0), 2 * ((-w * z) >> 28));
        Check.due("r00 by hand", estimate.toNavigation(ONE, 0, 0, 0), ONE - 2 * ((z * z) >> 28));
    }

    private static void promise32ToBody() {
        InertialReference r = new InertialReference();
        Check.due("north of a level body", r.toBody(5, -ONE, 6, 0), 5);
        Check.due("east of a level body", r.toBody(5, -ONE, 6, 1), -ONE);
        Check.due("down of a level body", r.toBody(5, -ONE, 6, 2), 6);
        InertialReference east = headingEast();
        near("north's forward", east.toBody(ONE, 0, 0, 0), 0);
        near("north's right", east.toBody(ONE, 0, 0, 1), -ONE);
        near("east's forward", east.toBody(0, ONE, 0, 0), ONE);
        InertialReference estimate = new InertialReference();
        estimate.turnTruth(4000000, 4000000, 4000000);
        Check.due("the truth turns no vector", estimate.toBody(1, 2, 3, 2), 3);
        estimate.turnEstimate(0, 0, 2000000);
        long w = estimate.estimate(0);
        long z = estimate.estimate(3);
        Check.due("r01 by hand", estimate.toBody(ONE, 0, 0, 1), 2 * ((-w * z) >> 28));
        Check.due("r10 by hand", estimate.toBody(0, ONE, 0, 0), 2 * ((w * z) >> 28));
    }

    /** Every component is looked at, and 0 answers what is out of range. */
    private static void promise31And32Ranges() {
        InertialReference r = new InertialReference();
        r.turnEstimate(4000000, 4000000, 4000000);
        for (int end : new int[] {-ONE, ONE}) {
            Check.holds("toNavigation of x " + end, r.toNavigation(end, 0, 0, 0) != 0);
            Check.holds("toNavigation of y " + end, r.toNavigation(0, end, 0, 1) != 0);
            Check.holds("toNavigation of z " + end, r.toNavigation(0, 0, end, 2) != 0);
            Check.holds("toBody of x " + end, r.toBody(end, 0, 0, 0) != 0);
            Check.holds("toBody of y " + end, r.toBody(0, end, 0, 1) != 0);
            Check.holds("toBody of z " + end, r.toBody(0, 0, end, 2) != 0);
        }
        for (int out : new int[] {-ONE - 1, ONE + 1, Integer.MIN_VALUE, Integer.MAX_VALUE}) {
            for (int axis = 0; axis < 3; axis++) {
                Check.due("toNavigation of x " + out, r.toNavigation(out, ONE, ONE, axis), 0);
                Check.due("toNavigation of y " + out, r.toNavigation(ONE, out, ONE, axis), 0);
                Check.due("toNavigation of z " + out, r.toNavigation(ONE, ONE, out, axis), 0);
                Check.due("toBody of x " + out, r.toBody(out, ONE, ONE, axis), 0);
                Check.due("toBody of y " + out, r.toBody(ONE, out, ONE, axis), 0);
                Check.due("toBody of z " + out, r.toBody(ONE, ONE, out, axis), 0);
            }
        }
        for (int axis : NO_AXES) {
            Check.due("toNavigation for axis " + axis, r.toNavigation(ONE, ONE, ONE, axis), 0);
            Check.due("toBody for axis " + axis, r.toBody(ONE, ONE, ONE, axis), 0);
        }
    }

    private static void promise33VisitedBins() {
        InertialReference r = new InertialReference();
        Check.due("none before a tick", r.visitedBins(), 0);
        r.run(3);
        Check.due("the first bin", r.visitedBins(), 1);
        r.setTemperature(29);
        r.run(1);
        Check.due("the same bin", r.visitedBins(), 1);
        r.setTemperature(50);
        Check.due("a bin without a tick", r.visitedBins(), 1);
        r.setTemperature(-1);
        r.run(1);
        Check.due("the bin below 0", r.visitedBins(), 2);
        r.setTemperature(0);
        r.run(1);
        Check.due("the bin from 0", r.visitedBins(), 3);
        for (int temperature = -40; temperature <= 85; temperature++) {
            r.setTemperature(temperature);
            r.run(1);
        }
        Check.due("every bin", r.visitedBins(), 13);
    }
}
