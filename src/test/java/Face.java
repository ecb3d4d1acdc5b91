import java.lang.reflect.Constructor;
import java.lang.reflect.Field;
import java.lang.reflect.Method;
import java.lang.reflect.Modifier;
import java.util.Arrays;
import java.util.Set;
import java.util.TreeSet;

/** The class shows the document's face and nothing else. */
public final class Face {
    private static final Check T = new Check("Face");
    private static final String[] METHODS = {
        "int addSeries(int) throws IllegalArgumentException IllegalStateException",
        "boolean put(int,int,int) throws IndexOutOfBoundsException IllegalArgumentException IllegalStateException",
        "int putMany(int,int,int,int,int,int) throws IndexOutOfBoundsException IllegalArgumentException IllegalStateException",
        "int erase(int,int) throws IndexOutOfBoundsException IllegalStateException",
        "int advance(int) throws IllegalArgumentException",
        "int setRetention(int,int) throws IllegalArgumentException",
        "int clock()",
        "int series()",
        "int horizon(int) throws IllegalArgumentException",
        "int rows(int,int) throws IndexOutOfBoundsException IllegalArgumentException",
        "int timeOf(int,int,int) throws IndexOutOfBoundsException IllegalArgumentException IllegalStateException",
        "int valueAt(int,int) throws IndexOutOfBoundsException IllegalStateException",
        "boolean hasRollup(int,int,int) throws IndexOutOfBoundsException IllegalArgumentException",
        "int count(int,int,int) throws IndexOutOfBoundsException IllegalArgumentException IllegalStateException",
        "long sum(int,int,int) throws IndexOutOfBoundsException IllegalArgumentException IllegalStateException",
        "double average(int,int,int) throws IndexOutOfBoundsException IllegalArgumentException IllegalStateException",
        "int least(int,int,int) throws IndexOutOfBoundsException IllegalArgumentException IllegalStateException",
        "int greatest(int,int,int) throws IndexOutOfBoundsException IllegalArgumentException IllegalStateException",
        "int first(int,int,int) throws IndexOutOfBoundsException IllegalArgumentException IllegalStateException",
        "int last(int,int,int) throws IndexOutOfBoundsException IllegalArgumentException IllegalStateException",
        "int filled(int,int,int,int) throws IndexOutOfBoundsException IllegalArgumentException IllegalStateException",
        "int parts(int,int) throws IllegalArgumentException",
        "boolean isKnown(int,int) throws IllegalArgumentException",
        "long total(int,int,int) throws IndexOutOfBoundsException IllegalArgumentException IllegalStateException",
        "long totalByPoints(int,int,int) throws IndexOutOfBoundsException IllegalArgumentException IllegalStateException",
        "long increase(int,int,int) throws IndexOutOfBoundsException IllegalArgumentException IllegalStateException",
        "double ratePerHour(int,int,int) throws IndexOutOfBoundsException IllegalArgumentException IllegalStateException",
        "int gaps(int,int,int,int) throws IndexOutOfBoundsException IllegalArgumentException",
    };
    private static final String[] CONSTANTS = {"GAUGE=0", "COUNTER=1", "POINTS=0", "MINUTES=1", "HOURS=2", "DAYS=3", "ZERO=0",
        "PREVIOUS=1", "LINEAR=2"};

    public static void main(String[] args) throws IllegalAccessException {
        Class<?> face = RollupStore.class;
        T.is("public and final", () -> face.getModifiers(), Modifier.PUBLIC | Modifier.FINAL);
        methods(face);
        fields(face);
        Constructor<?>[] constructors = face.getDeclaredConstructors();
        T.is("constructors", () -> Arrays.toString(constructors), "[public RollupStore()]");
        T.end();
    }

    private static void methods(Class<?> face) {
        Set<String> open = new TreeSet<>();
        Set<String> names = new TreeSet<>();
        for (Method method : face.getDeclaredMethods()) {
            if (!Modifier.isPrivate(method.getModifiers())) {
                T.is(method.getName() + " is public and no more", () -> method.getModifiers(), Modifier.PUBLIC);
                open.add(described(method));
                names.add(method.getName());
            }
        }
        T.is("methods", () -> open, new TreeSet<>(Arrays.asList(METHODS)));
        for (Method method : face.getDeclaredMethods()) {
            if (Modifier.isPrivate(method.getModifiers())) {
                T.is("no public one is named " + method.getName(), () -> names.contains(method.getName()), false);
            }
        }
        for (Class<?> inside : face.getDeclaredClasses()) {
            T.is(inside.getName() + " is private and static", () -> inside.getModifiers() & ~Modifier.FINAL,
                    Modifier.PRIVATE | Modifier.STATIC);
            for (Method method : inside.getDeclaredMethods()) {
                T.is("no public one is named " + method.getName(), () -> names.contains(method.getName()), false);
            }
        }
    }

    private static String described(Method method) {
        StringBuilder text = new StringBuilder(method.getReturnType() + " " + method.getName() + "(");
        for (int place = 0; place < method.getParameterCount(); place++) {
            text.append(place == 0 ? "" : ",").append(method.getParameterTypes()[place]);
        }
        text.append(")").append(method.getExceptionTypes().length == 0 ? "" : " throws");
        for (Class<?> thrown : method.getExceptionTypes()) {
            text.append(" ").append(thrown.getSimpleName());
        }
        return text.toString();
    }

    private static void fields(Class<?> face) throws IllegalAccessException {
        Set<String> open = new TreeSet<>();
        for (Field field : face.getDeclaredFields()) {
            if (!Modifier.isPrivate(field.getModifiers())) {
                T.is(field.getName() + " is a constant", () -> field.getModifiers(),
                        Modifier.PUBLIC | Modifier.STATIC | Modifier.FINAL);
                open.add(field.getName() + "=" + field.get(null));
            }
        }
        T.is("constants", () -> open, new TreeSet<>(Arrays.asList(CONSTANTS)));
    }
}
