import java.lang.reflect.Constructor;
import java.lang.reflect.Executable;
import java.lang.reflect.Field;
import java.lang.reflect.Method;
import java.lang.reflect.Modifier;
import java.util.Arrays;
import java.util.TreeSet;
import java.util.stream.Collectors;

/** That the class has the document's face, and that nothing else of it can be reached from outside. */
final class FaceTest {
    private static final String ARGUMENT = "IllegalArgumentException";
    private static final String STATE = "IllegalStateException";
    private static final String INDEX = "IndexOutOfBoundsException";
    private static final String UNSUPPORTED = "UnsupportedOperationException";
    private static final String ELEMENT = "NoSuchElementException";
    private static final String[] FACE = {
        face("int addStation(int, int, int)", ARGUMENT, UNSUPPORTED, STATE),
        face("int removeStation()", UNSUPPORTED, STATE),
        face("boolean setParticipates(int, boolean)", INDEX, UNSUPPORTED),
        face("int setValue(int, int)", INDEX, ARGUMENT, UNSUPPORTED),
        face("int setAvailable(int)", ARGUMENT, UNSUPPORTED),
        face("int append(int)", ARGUMENT, STATE),
        face("int setConflicts()", UNSUPPORTED, ARGUMENT),
        face("int errorPosition()"),
        face("boolean hasConflict(int, int, int)", INDEX, ARGUMENT),
        face("int conflicts(int)", INDEX),
        face("int station(int, int)", INDEX, ARGUMENT),
        face("int volumeBits(int)", INDEX),
        face("int priceAt(int, int)", INDEX, ARGUMENT),
        face("boolean isFeasible(int)", ARGUMENT),
        face("int assign(int)", ARGUMENT, STATE),
        face("int repack(int)", ARGUMENT, STATE),
        face("int assignments(int)", ARGUMENT),
        face("int channelsNeeded(int)", ARGUMENT, STATE),
        face("int core(int, int)", INDEX, ARGUMENT, ELEMENT),
        face("int open(int)", ARGUMENT, UNSUPPORTED, STATE),
        face("int round(int)", ARGUMENT, STATE),
        face("int run(int)", ARGUMENT, STATE),
        face("int back(int)", STATE, INDEX),
        face("int close()", STATE),
        face("int cancel()", STATE),
        face("int state(int)", INDEX, STATE),
        face("int price(int)", INDEX, STATE, ELEMENT),
        face("int frozenBy(int)", INDEX, STATE, ELEMENT),
        face("int auction(int)", ARGUMENT, STATE),
        face("int event(int)", STATE, ELEMENT),
        face("int order(int)", ELEMENT),
        face("int best()", STATE),
        face("int leastLoss()", STATE),
        face("int efficiencyBits()", STATE),
        face("long meanPriceBits()", STATE, "ArithmeticException"),
        face("int count(int)", ARGUMENT),
        face("int save()"),
        face("int restore()", STATE),
    };

    private FaceTest() {
    }

    public static void main(String[] args) {
        Class<?> tested = SpectrumReallocator.class;
        Check.due("public and final", tested.getModifiers(), Modifier.PUBLIC | Modifier.FINAL);
        Check.due("superclass", tested.getSuperclass(), Object.class);
        Check.dueNumber("interfaces", tested.getInterfaces().length, 0);
        TreeSet<String> methods = new TreeSet<>();
        for (Method method : tested.getDeclaredMethods()) {
            if (!Modifier.isPrivate(method.getModifiers()) && !method.isSynthetic()) {
                Check.due(method + " is public", method.getModifiers(), Modifier.PUBLIC);
                methods.add(method.getReturnType() + " " + method.getName() + tail(method));
            }
        }
        Check.due("methods", methods, new TreeSet<>(Arrays.asList(FACE)));
        Constructor<?>[] constructors = tested.getDeclaredConstructors();
        Check.dueNumber("constructors", constructors.length, 1);
        Check.due("constructor", Modifier.toString(constructors[0].getModifiers()) + tail(constructors[0]), "public() ");
        for (Field field : tested.getDeclaredFields()) {
            Check.due(field + " is private", Modifier.isPrivate(field.getModifiers()), true);
        }
        for (Class<?> inner : tested.getDeclaredClasses()) {
            Check.due(inner + " is static", Modifier.isStatic(inner.getModifiers()), true);
            Check.due(inner + " is not public", Modifier.isPublic(inner.getModifiers()), false);
        }
        Check.end("FaceTest");
    }

    private static String face(String signature, String... thrown) {
        return signature + " " + String.join(", ", thrown);
    }

    private static String tail(Executable executable) {
        return "(" + names(executable.getParameterTypes()) + ") " + names(executable.getExceptionTypes());
    }

    private static String names(Class<?>[] types) {
        return Arrays.stream(types).map(Class::getSimpleName).collect(Collectors.joining(", "));
    }
}
