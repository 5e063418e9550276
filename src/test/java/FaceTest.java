import java.lang.reflect.Constructor;
import java.lang.reflect.Field;
import java.lang.reflect.Method;
import java.lang.reflect.Modifier;
import java.util.Arrays;
import java.util.Set;
import java.util.TreeSet;

/** The class has the document's public face and nothing else that can be seen from outside it. */
public final class FaceTest {
    private static final Set<String> FACE = new TreeSet<>(Arrays.asList(
            "public static final int WcspSolver.FORBIDDEN",
            "public WcspSolver(int,int)",
            "public int WcspSolver.unary(int,int,int)",
            "public int WcspSolver.binary(int,int,int)",
            "public int WcspSolver.relate(int,int,int)",
            "public int WcspSolver.unaryCost(int,int)",
            "public int WcspSolver.binaryCost(int,int)",
            "public int WcspSolver.allow(int,int)",
            "public int WcspSolver.best()",
            "public int WcspSolver.bestCount()",
            "public int WcspSolver.bestValue(int)",
            "public int WcspSolver.bestWith(int,int)",
            "public int WcspSolver.bestWithPair(int,int)",
            "public int WcspSolver.countUpTo(int)",
            "public int WcspSolver.nextCost(int)",
            "public int WcspSolver.costOf(int)",
            "public int WcspSolver.choices(int)"));

    private static int wrong = 0;

    private static void hold(boolean holds, String what) {
        if (!holds) {
            wrong++;
            System.out.println("not so: " + what);
        }
    }

    private static boolean numbersOnly(Class<?> type) {
        Class<?> part = type.isArray() ? type.getComponentType() : type;
        return part.isPrimitive() && part != float.class && part != double.class;
    }

    private static void fields(Class<?> face, Set<String> seen) {
        int own = 0;
        for (Field field : face.getDeclaredFields()) {
            int modifiers = field.getModifiers();
            if (!Modifier.isPrivate(modifiers)) {
                seen.add(field.toString());
            }
            hold(numbersOnly(field.getType()), field + " is a number or an array of numbers");
            if (Modifier.isStatic(modifiers)) {
                boolean whole = field.getType() == int.class || field.getType() == long.class;
                hold(whole && Modifier.isFinal(modifiers), field + " is a constant of int or long");
            } else {
                own++;
            }
        }
        hold(own <= 40, "there are at most forty fields");
    }

    private static void methods(Class<?> face, Set<String> seen) {
        Set<String> names = new TreeSet<>();
        for (Method method : face.getDeclaredMethods()) {
            if (!Modifier.isPrivate(method.getModifiers())) {
                seen.add(method.toString());
            }
            hold(names.add(method.getName()), method + " shares its name with no other");
            hold(method.getParameterCount() <= 7, method + " has at most seven parameters");
            hold(!method.getReturnType().isArray(), method + " answers no array");
        }
    }

    public static void main(String[] args) {
        Class<?> face = WcspSolver.class;
        Set<String> seen = new TreeSet<>();
        fields(face, seen);
        methods(face, seen);
        for (Constructor<?> constructor : face.getDeclaredConstructors()) {
            seen.add(constructor.toString());
        }
        hold(seen.equals(FACE), "the face is " + FACE + ", but it was " + seen);
        hold(face.getModifiers() == (Modifier.PUBLIC | Modifier.FINAL), "the class is public and final");
        hold(face.getSuperclass() == Object.class, "the class extends nothing");
        hold(face.getInterfaces().length == 0, "the class implements nothing");
        hold(face.getDeclaredClasses().length == 0, "no class is nested");
        System.out.println(wrong == 0 ? "the face is the document's" : wrong + " faults");
        if (wrong != 0) {
            System.exit(1);
        }
    }
}
