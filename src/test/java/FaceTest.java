import java.lang.reflect.Constructor;
import java.lang.reflect.Field;
import java.lang.reflect.Method;
import java.lang.reflect.Modifier;
import java.util.Arrays;
import java.util.Set;
import java.util.TreeSet;

// The public face of the document, and what of LANGUAGE.md (rules 1, 2, 4, 5 and 10) the compiled class shows.
public final class FaceTest {
    private static final Set<String> FACE = new TreeSet<>(Arrays.asList(
        "public static final int IncrementalScc.BAD",
        "public static final int IncrementalScc.NONE",
        "public IncrementalScc(int)",
        "public int IncrementalScc.addEdge(int,int)",
        "public int IncrementalScc.removeEdge(int,int)",
        "public int IncrementalScc.components()",
        "public int IncrementalScc.leader(int)",
        "public int IncrementalScc.componentSize(int)",
        "public boolean IncrementalScc.reaches(int,int)",
        "public int IncrementalScc.height(int)",
        "public int IncrementalScc.cycle(int)",
        "public int IncrementalScc.outerEdges()",
        "public boolean IncrementalScc.inOneLine()"));

    private static int wrong = 0;

    public static void main(String[] args) {
        Class<?> c = IncrementalScc.class;
        due("the class is public and final", c.getModifiers() == (Modifier.PUBLIC | Modifier.FINAL));
        due("it extends nothing", c.getSuperclass() == Object.class && c.getInterfaces().length == 0);
        due("it has no nested class", c.getDeclaredClasses().length == 0);
        Set<String> seen = new TreeSet<>();
        for (Constructor<?> constructor : c.getDeclaredConstructors()) {
            look(constructor.getModifiers(), constructor.toString(), seen);
        }
        Set<String> publicNames = new TreeSet<>();
        for (Method method : c.getDeclaredMethods()) {
            look(method.getModifiers(), method.toString(), seen);
            if (Modifier.isPublic(method.getModifiers())) {
                publicNames.add(method.getName());
            }
        }
        for (Field field : c.getDeclaredFields()) {
            look(field.getModifiers(), field.toString(), seen);
            lookAtField(field);
        }
        for (Method method : c.getDeclaredMethods()) {
            lookAtMethod(method, publicNames);
        }
        due("the face is " + FACE + ", seen is " + seen, seen.equals(FACE));
        System.out.println(wrong == 0 ? "the face is as due" : wrong + " things are not as due");
        if (wrong != 0) {
            System.exit(1);
        }
    }

    private static void due(String what, boolean holds) {
        if (!holds) {
            wrong++;
            System.out.println("not so: " + what);
        }
    }

    private static void look(int modifiers, String member, Set<String> seen) {
        if (!Modifier.isPrivate(modifiers)) {
            seen.add(member);
        }
    }

    private static void lookAtField(Field field) {
        boolean isStatic = Modifier.isStatic(field.getModifiers());
        Class<?> type = field.getType();
        Class<?> element = type.isArray() ? type.getComponentType() : type;
        due(field + " is of a type of rule 2", isNumberOrBoolean(element));
        due(field + " is a constant of int or long if static",
            !isStatic || (Modifier.isFinal(field.getModifiers()) && (type == int.class || type == long.class)));
    }

    private static void lookAtMethod(Method method, Set<String> publicNames) {
        boolean isPrivate = Modifier.isPrivate(method.getModifiers());
        due(method + " bears no public name", !isPrivate || !publicNames.contains(method.getName()));
        due(method + " takes at most seven parameters", method.getParameterCount() <= 7);
        due(method + " answers no array", !method.getReturnType().isArray());
    }

    private static boolean isNumberOrBoolean(Class<?> type) {
        return type.isPrimitive() && type != float.class && type != double.class;
    }
}
