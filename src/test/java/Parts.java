/** The four parts of the estimated attitude. */
final class Parts {
    private Parts() {
    }

    static long[] ofEstimate(InertialReference r) {
        return new long[] {r.estimate(0), r.estimate(1), r.estimate(2), r.estimate(3)};
    }

    static void dueEstimate(String what, InertialReference r, long[] due) {
        for (int k = 0; k < due.length; k++) {
            Check.due("estimate(" + k + ") " + what, r.estimate(k), due[k]);
        }
    }
}
