import java.lang.reflect.Constructor;
import java.lang.reflect.Field;
import java.lang.reflect.Method;
import java.lang.reflect.Modifier;
import java.util.Arrays;
import java.util.Set;
import java.util.TreeSet;

// The public face is the document's, no more and no less, and the members keep to LANGUAGE.md where
// the compiled class can tell.
public final class FaceTest {
    private static final String[] FACE = {
        "int UNSOLVED = 0", "int OPTIMAL = 1", "int INFEASIBLE = 2",
        "int LE = 1", "int GE = 2", "int EQ = 3",
        "int MAX_VARS = 4", "int MAX_ROWS = 8", "int MAX_COEF = 9", "int MAX_RHS = 99", "int MAX_BOUND = 7",
        "GomoryBranch[int]",
        "int numVars[]", "int numRows[]",
        "boolean setObjective[int, int]", "boolean setBounds[int, int, int]",
        "int addRow[int, int]", "boolean setCoef[int, int, int]", "boolean removeLastRow[]",
        "int solve[]", "int status[]", "int value[]", "int point[int]",
        "int getCoef[int, int]", "int getRhs[int]", "int getKind[int]",
        "int getObjective[int]", "int getBound[int, int]",
    };

    private static int wrong = 0;

    private static void holds(String what, boolean ok) {
        if (!ok) {
            wrong++;
            System.out.println("does not hold: " + what);
        }
    }

    private static boolean isPrivate(int modifiers) {
        return Modifier.isPrivate(modifiers);
    }

    private static boolean isPublic(int modifiers) {
        return Modifier.isPublic(modifiers);
    }

    private static String types(Class<?>[] parameters) {
        return Arrays.stream(parameters).map(Class::getSimpleName).toList().toString();
    }

    private static boolean isAllowed(Class<?> type) {
        Class<?> plain = type.isArray() ? type.getComponentType() : type;
        return plain.isPrimitive() && plain != float.class && plain != double.class;
    }

    private static void fields(Set<String> face) throws IllegalAccessException {
        for (Field f : GomoryBranch.class.getDeclaredFields()) {
            int m = f.getModifiers();
            holds(f + " is public or private", isPublic(m) || isPrivate(m));
            holds(f + " is of an allowed type", isAllowed(f.getType()));
            if (Modifier.isStatic(m)) {
                holds(f + " is a final int or long",
                    Modifier.isFinal(m) && (f.getType() == int.class || f.getType() == long.class));
            }
            if (isPublic(m)) {
                holds(f + " is a constant", Modifier.isStatic(m) && Modifier.isFinal(m));
                face.add(f.getType() + " " + f.getName() + " = " + f.get(null));
            }
        }
    }

    private static void methods(Set<String> face) {
        Set<String> publicNames = new TreeSet<>();
        Set<String> privateNames = new TreeSet<>();
        for (Method method : GomoryBranch.class.getDeclaredMethods()) {
            int m = method.getModifiers();
            holds(method + " is public or private", isPublic(m) || isPrivate(m));
            holds(method + " has at most seven parameters", method.getParameterCount() <= 7);
            holds(method + " declares no exception", method.getExceptionTypes().length == 0);
            holds(method + " answers no array", !method.getReturnType().isArray());
            (isPublic(m) ? publicNames : privateNames).add(method.getName());
            if (isPublic(m)) {
                holds(method + " belongs to an object", !Modifier.isStatic(m));
                face.add(method.getReturnType() + " " + method.getName() + types(method.getParameterTypes()));
            }
        }
        publicNames.retainAll(privateNames);
        holds("no private method bears a public one's name " + publicNames, publicNames.isEmpty());
    }

    private static void constructors(Set<String> face) {
        for (Constructor<?> constructor : GomoryBranch.class.getDeclaredConstructors()) {
            holds(constructor + " is public", isPublic(constructor.getModifiers()));
            face.add("GomoryBranch" + types(constructor.getParameterTypes()));
        }
    }

    public static void main(String[] args) throws IllegalAccessException {
        Class<GomoryBranch> c = GomoryBranch.class;
        holds("the class is public", isPublic(c.getModifiers()));
        holds("the class is final", Modifier.isFinal(c.getModifiers()));
        holds("the class has no package", c.getPackageName().isEmpty());
        holds("the class extends Object alone", c.getSuperclass() == Object.class && c.getInterfaces().length == 0);
        holds("no class is nested", c.getDeclaredClasses().length == 0);
        Set<String> face = new TreeSet<>();
        fields(face);
        methods(face);
        constructors(face);
        Set<String> want = new TreeSet<>(Arrays.asList(FACE));
        holds("the face " + face + " is " + want, face.equals(want));
        System.out.println(wrong == 0 ? "the face is the document's" : wrong + " rules do not hold");
        if (wrong != 0) {
            System.exit(1);
        }
    }
}
