import java.lang.reflect.Constructor;
import java.lang.reflect.Field;
import java.lang.reflect.Method;
import java.lang.reflect.Modifier;
import java.util.ArrayList;
import java.util.Arrays;
import java.util.Collections;
import java.util.List;
import java.util.StringJoiner;

/** The public face is the document's, and nothing else of the class can be seen. */
public final class FaceTest {
    private static final String[] FACE = {
        "boolean keeps()",
        "int erased(int) throws IndexOutOfBoundsException, IllegalArgumentException",
        "int node(boolean) throws IllegalStateException",
        "int nodes()",
        "int simplify()",
        "int tree(int) throws IllegalArgumentException",
        "int undo() throws IllegalStateException",
        "int wire(int,int,int) throws IndexOutOfBoundsException, IllegalArgumentException, IllegalStateException",
        "int wireIs(int,int) throws IndexOutOfBoundsException, IllegalArgumentException",
        "int wires()",
        "long answer(int,int,boolean) throws IndexOutOfBoundsException, IllegalArgumentException",
        "long chance(int,int,int,boolean) throws IndexOutOfBoundsException, IllegalArgumentException",
        "long current(int,boolean) throws IndexOutOfBoundsException",
        "long distance(int,int,boolean) throws IndexOutOfBoundsException",
        "long potential(int,boolean) throws IndexOutOfBoundsException",
        "long power(boolean)",
        "long rest()",
        "long starred(int,boolean) throws IndexOutOfBoundsException",
        "long trees()",
        "long treesAnew()",
        "void mark()",
        "void move(int,int) throws IndexOutOfBoundsException, IllegalArgumentException, IllegalStateException",
        "void value(int,int) throws IndexOutOfBoundsException, IllegalArgumentException",
    };

    private static int wrong = 0;

    private static void due(String what, Object got, Object want) {
        if (!got.equals(want)) {
            wrong++;
            System.out.println(what + ": is " + got + ", due is " + want);
        }
    }

    private static String told(Method method) {
        StringJoiner parameters = new StringJoiner(",", "(", ")");
        for (Class<?> type : method.getParameterTypes()) {
            parameters.add(type.getSimpleName());
        }
        StringJoiner thrown = new StringJoiner(", ");
        for (Class<?> type : method.getExceptionTypes()) {
            thrown.add(type.getSimpleName());
        }
        String told = method.getReturnType().getSimpleName() + " " + method.getName() + parameters;
        return thrown.length() == 0 ? told : told + " throws " + thrown;
    }

    private static void methodsAreTheFace() {
        List<String> seen = new ArrayList<>();
        List<String> hidden = new ArrayList<>();
        for (Method method : ExactWires.class.getDeclaredMethods()) {
            if (Modifier.isPrivate(method.getModifiers())) {
                hidden.add(method.getName());
            } else {
                due(method.getName() + " is public and of an object", method.getModifiers(), Modifier.PUBLIC);
                seen.add(told(method));
                due("exceptions of " + method.getName() + " are unchecked", areUnchecked(method), true);
            }
        }
        Collections.sort(seen);
        due("methods", seen, Arrays.asList(FACE));
        for (String each : FACE) {
            String name = each.substring(each.indexOf(' ') + 1, each.indexOf('('));
            due("a private method is named as " + name, hidden.contains(name), false);
        }
    }

    private static boolean areUnchecked(Method method) {
        for (Class<?> type : method.getExceptionTypes()) {
            if (!RuntimeException.class.isAssignableFrom(type)) {
                return false;
            }
        }
        return true;
    }

    private static void constantsAreTheFace() throws IllegalAccessException {
        String[] names = {"NONE", "LOOP", "PARALLEL", "SPIKE", "SERIES", "TRIANGLE", "STAR"};
        int count = 0;
        for (Field field : ExactWires.class.getDeclaredFields()) {
            if (Modifier.isPrivate(field.getModifiers())) {
                continue;
            }
            int place = Arrays.asList(names).indexOf(field.getName());
            due(field.getName() + " is a constant", field.getModifiers(),
                    Modifier.PUBLIC | Modifier.STATIC | Modifier.FINAL);
            due(field.getName() + " is an int", field.getType(), int.class);
            due(field.getName(), field.getInt(null), place - 1);
            count++;
        }
        due("how many constants", count, names.length);
    }

    private static void classesAreHidden() {
        due("the class", ExactWires.class.getModifiers(), Modifier.PUBLIC | Modifier.FINAL);
        due("its superclass", ExactWires.class.getSuperclass(), Object.class);
        due("its interfaces", ExactWires.class.getInterfaces().length, 0);
        Constructor<?>[] constructors = ExactWires.class.getDeclaredConstructors();
        due("how many constructors", constructors.length, 1);
        due("its constructor", constructors[0].getModifiers(), Modifier.PUBLIC);
        due("the constructor's parameters", constructors[0].getParameterCount(), 0);
        for (Class<?> inside : ExactWires.class.getDeclaredClasses()) {
            due(inside.getName() + " is private", Modifier.isPrivate(inside.getModifiers()), true);
            due(inside.getName() + " is static", Modifier.isStatic(inside.getModifiers()), true);
        }
    }

    public static void main(String[] args) throws IllegalAccessException {
        classesAreHidden();
        constantsAreTheFace();
        methodsAreTheFace();
        System.out.println(wrong == 0 ? "the face is as due" : wrong + " of the face are not as due");
        if (wrong != 0) {
            System.exit(1);
        }
    }
}
