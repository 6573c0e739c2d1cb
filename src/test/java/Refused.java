import java.util.function.ToLongFunction;

/** A refused call answers its refusal and changes nothing, on a new object and on one with every part at work. */
final class Refused {
    /** A call in which one parameter is tried and the others are in range. */
    interface Call {
        long of(InertialReference r, int value);
    }

    private Refused() {
    }

    /** A parameter's range: what lies just and far beyond its two ends is refused. */
    static void beyond(String sentence, int low, int high, long refusal, Call call) {
        for (int value : new int[] {low - 1, high + 1, Integer.MIN_VALUE, Integer.MAX_VALUE}) {
            always(sentence + ", tried with " + value, refusal, r -> call.of(r, value));
        }
    }

    static void always(String sentence, long refusal, ToLongFunction<InertialReference> call) {
        once(sentence + ", on a new object", refusal, call, new InertialReference(), new InertialReference());
        whenBusy(sentence, refusal, call);
    }

    /** For what is refused because the object is full or at work. */
    static void whenBusy(String sentence, long refusal, ToLongFunction<InertialReference> call) {
        once(sentence + ", on a busy object", refusal, call, Busy.make(), Busy.make());
    }

    private static void once(String what, long refusal, ToLongFunction<InertialReference> call,
            InertialReference asked, InertialReference untouched) {
        Check.due(what, call.applyAsLong(asked), refusal);
        Trace.same(what + ", then", asked, untouched);
    }
}
