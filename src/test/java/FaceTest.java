import java.lang.reflect.Constructor;
import java.lang.reflect.Field;
import java.lang.reflect.Method;
import java.lang.reflect.Modifier;
import java.util.Arrays;
import java.util.Set;
import java.util.TreeSet;

/** The class shows the document's face and nothing else. */
public final class FaceTest {
    private static final Due due = new Due("face");

    public static void main(String[] args) {
        Class<?> type = ChunkArray.class;
        due.is("public and final", type.getModifiers(), Modifier.PUBLIC | Modifier.FINAL);
        due.is("BAD_CELL", ChunkArray.BAD_CELL, -1);
        due.is("BAD_VERSION", ChunkArray.BAD_VERSION, -2);
        due.is("TAKEN", ChunkArray.TAKEN, -3);
        due.is("nested classes", type.getDeclaredClasses().length, 0);
        due.is("interfaces", type.getInterfaces().length, 0);
        constructors(type);
        methods(type);
        fields(type);
        due.end();
    }

    private static void constructors(Class<?> type) {
        Constructor<?>[] all = type.getDeclaredConstructors();
        due.is("constructors", all.length, 1);
        due.is("the constructor's modifiers", all[0].getModifiers(), Modifier.PUBLIC);
        due.is("the constructor's parameters", all[0].getParameterCount(), 0);
    }

    private static void methods(Class<?> type) {
        Set<String> want = new TreeSet<>(Arrays.asList(
            "fill 3", "add 3", "scale 3", "copy 3", "keep 1", "restore 1", "drop 1", "get 1",
            "getOf 2", "sum 2", "greatest 2", "differ 1", "count 3"));
        Set<String> got = new TreeSet<>();
        for (Method method : type.getDeclaredMethods()) {
            if (Modifier.isPrivate(method.getModifiers())) {
                continue;
            }
            got.add(method.getName() + " " + method.getParameterCount());
            due.is(method + " is public alone", method.getModifiers(), Modifier.PUBLIC);
            due.holds(method + " answers an int", method.getReturnType() == int.class);
            for (Class<?> parameter : method.getParameterTypes()) {
                due.holds(method + " takes ints", parameter == int.class);
            }
        }
        due.holds("methods " + got, got.equals(want));
    }

    private static void fields(Class<?> type) {
        Set<String> want = new TreeSet<>(Arrays.asList("BAD_CELL", "BAD_VERSION", "TAKEN"));
        Set<String> got = new TreeSet<>();
        int constant = Modifier.PUBLIC | Modifier.STATIC | Modifier.FINAL;
        for (Field field : type.getDeclaredFields()) {
            if (Modifier.isPrivate(field.getModifiers())) {
                continue;
            }
            got.add(field.getName());
            due.is(field + " is a constant", field.getModifiers(), constant);
            due.holds(field + " is an int", field.getType() == int.class);
        }
        due.holds("fields " + got, got.equals(want));
    }
}
