import java.lang.reflect.Constructor;
import java.lang.reflect.Field;
import java.lang.reflect.Method;
import java.lang.reflect.Modifier;
import java.util.Arrays;
import java.util.HashSet;
import java.util.Set;
import java.util.TreeSet;

/** The document's public face, whole and nothing beside it, and the rules of LANGUAGE.md that can be seen from outside. */
public final class FaceTest {
    private static final String[] METHODS = {
        "int setGyro(int,int,int,int,int)", "int setAccelerometer(int,int)", "int setEarthRate(int,int)",
        "int setTemperature(int)", "int setSeed(int)", "int addSegment(int,int,int,int)", "int clearScript()",
        "int scriptTicks()", "int turnTruth(int,int,int)", "int run(int)", "int time()", "long gyro(int)",
        "long accelerometer(int)", "int setMethod(int)", "int setLevelling(int)", "int setHeading(int)",
        "int startCalibration(int)", "int calibrationLeft()", "long biasEstimate(int)",
        "int setCompensation(int,int,int)", "int learnCompensation()", "int compensation(int,int)",
        "int forgetBin(int)", "int turnEstimate(int,int,int)", "long estimate(int)", "long truth(int)",
        "long errorAngle()", "long greatestError()", "long tiltError()", "long toNavigation(int,int,int,int)",
        "long toBody(int,int,int,int)", "int visitedBins()", "int store(int)", "int recall(int)", "int forget(int)",
        "long angleTo(int)", "int storedNumber(int)", "int reset()",
    };
    private static final String[] CONSTANTS = {"NONE", "INVALID", "FULL", "BUSY"};

    public static void main(String[] args) {
        Class<?> face = InertialReference.class;
        Check.holds("public and final", Modifier.isPublic(face.getModifiers()) && Modifier.isFinal(face.getModifiers()));
        methods(face);
        constants(face);
        Constructor<?>[] constructors = face.getDeclaredConstructors();
        Check.holds("one public constructor without parameters", constructors.length == 1
                && Modifier.isPublic(constructors[0].getModifiers()) && constructors[0].getParameterCount() == 0);
        inside(face);
        Check.end();
    }

    private static void methods(Class<?> face) {
        Set<String> seen = new TreeSet<>();
        for (Method method : face.getDeclaredMethods()) {
            if (!Modifier.isPrivate(method.getModifiers())) {
                Check.holds(method + " is public and of an object",
                        Modifier.isPublic(method.getModifiers()) && !Modifier.isStatic(method.getModifiers()));
                seen.add(described(method));
            } else {
                Check.holds(method + " bears no name of the face", !publicNames().contains(method.getName()));
            }
        }
        Check.holds("the methods are the document's: " + seen, seen.equals(new TreeSet<>(Arrays.asList(METHODS))));
    }

    private static String described(Method method) {
        StringBuilder text = new StringBuilder(method.getReturnType() + " " + method.getName() + "(");
        for (Class<?> type : method.getParameterTypes()) {
            text.append(text.charAt(text.length() - 1) == '(' ? "" : ",").append(type);
        }
        return text.append(")").toString();
    }

    private static void constants(Class<?> face) {
        Set<String> seen = new HashSet<>();
        for (Field field : face.getDeclaredFields()) {
            int modifiers = field.getModifiers();
            if (!Modifier.isPrivate(modifiers)) {
                Check.holds(field + " is a constant", Modifier.isPublic(modifiers) && Modifier.isStatic(modifiers)
                        && Modifier.isFinal(modifiers) && field.getType() == int.class);
                seen.add(field.getName());
            }
            if (Modifier.isStatic(modifiers)) {
                Check.holds(field + " is final", Modifier.isFinal(modifiers));
            }
        }
        Check.holds("the constants are the document's: " + seen, seen.equals(new HashSet<>(Arrays.asList(CONSTANTS))));
    }

    private static void inside(Class<?> face) {
        Class<?>[] classes = face.getDeclaredClasses();
        Check.holds("at most twelve classes", classes.length + 1 <= 12);
        for (Class<?> part : classes) {
            Check.holds(part + " is static and not public",
                    Modifier.isStatic(part.getModifiers()) && !Modifier.isPublic(part.getModifiers()));
            for (Method method : part.getDeclaredMethods()) {
                Check.holds(method + " bears no name of the face", !publicNames().contains(method.getName()));
                Check.holds(method + " takes at most seven parameters", method.getParameterCount() <= 7);
            }
            for (Field field : part.getDeclaredFields()) {
                Check.holds(field + " is final where it is static",
                        !Modifier.isStatic(field.getModifiers()) || Modifier.isFinal(field.getModifiers()));
            }
        }
    }

    private static Set<String> publicNames() {
        Set<String> names = new HashSet<>();
        for (String method : METHODS) {
            names.add(method.substring(method.indexOf(' ') + 1, method.indexOf('(')));
        }
        return names;
    }
}
