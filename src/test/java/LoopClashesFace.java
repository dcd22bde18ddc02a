import java.lang.reflect.Constructor;
import java.lang.reflect.Field;
import java.lang.reflect.Method;
import java.lang.reflect.Modifier;
import java.util.Arrays;
import java.util.TreeSet;

/** The class shows the document's public face and nothing else. */
public final class LoopClashesFace {
    private static int wrong = 0;

    private static void due(String what, Object got, Object want) {
        if (!got.equals(want)) {
            wrong++;
            System.out.println(what + " is " + got + ", due is " + want);
        }
    }

    public static void main(String[] args) {
        TreeSet<String> want = new TreeSet<>(Arrays.asList(
            "int clashes(int, int)", "int depth()", "int directions(int, int)", "int drop(int)",
            "int exchangeable()", "int farthest(int, int)", "int first(int, int)", "int footprint(int)",
            "int innerFree()", "int mode(int, int)", "int nearest(int, int)", "int outerFree()",
            "int place(int, int)", "int refer(int, int, int)", "int references()", "int uniform(int, int)"));
        TreeSet<String> shown = new TreeSet<>();
        for (Method method : LoopClashes.class.getDeclaredMethods()) {
            if (!Modifier.isPrivate(method.getModifiers())) {
                due("public " + method.getName(), Modifier.toString(method.getModifiers()), "public");
                shown.add(method.getReturnType() + " " + method.getName() + listed(method.getParameterTypes()));
            }
        }
        due("the methods", shown, want);
        for (Field field : LoopClashes.class.getDeclaredFields()) {
            due("private " + field.getName(), Modifier.isPrivate(field.getModifiers()), true);
        }
        Constructor<?>[] constructors = LoopClashes.class.getDeclaredConstructors();
        due("the number of constructors", constructors.length, 1);
        due("the constructor", listed(constructors[0].getParameterTypes()), "(int, int)");
        due("the class", Modifier.toString(LoopClashes.class.getModifiers()), "public final");
        if (wrong != 0) {
            System.exit(1);
        }
        System.out.println("the face is as due");
    }

    private static String listed(Class<?>[] types) {
        StringBuilder text = new StringBuilder("(");
        for (int k = 0; k < types.length; k++) {
            text.append(k == 0 ? "" : ", ").append(types[k].getName());
        }
        return text.append(")").toString();
    }
}
