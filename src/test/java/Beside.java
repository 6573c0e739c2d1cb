import java.util.Arrays;

/** An object beside the model: both get each call, and must answer the same. */
final class Beside {
    private final String what;
    private final InertialReference r = new InertialReference();
    private final Model model = new Model();

    Beside(String what) {
        this.what = what;
    }

    void call(String name, int... p) {
        Class<?>[] types = new Class<?>[p.length];
        Arrays.fill(types, int.class);
        Object[] values = Arrays.stream(p).boxed().toArray();
        try {
            Number got = (Number) InertialReference.class.getMethod(name, types).invoke(r, values);
            Check.due(what + ": " + name + Arrays.toString(p), got.longValue(), model.call(name, p));
        } catch (ReflectiveOperationException e) {
            throw new IllegalStateException(name, e);
        }
    }
}
