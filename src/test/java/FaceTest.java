import java.lang.reflect.Field;
import java.lang.reflect.Method;
import java.lang.reflect.Modifier;
import java.util.Set;
import java.util.TreeSet;

/** The class has the document's face, and nothing else of it can be seen. */
public final class FaceTest {
    private static final String ARGUMENT = "IllegalArgumentException";
    private static final String UNSUPPORTED = "UnsupportedOperationException";
    private static final String INDEX = "IndexOutOfBoundsException";

    private static final Set<String> METHODS = new TreeSet<>(Set.of(
        "int thread() throws " + UNSUPPORTED,
        "int event(int,int,int,int) throws " + ARGUMENT + "," + UNSUPPORTED,
        "boolean depends(int,int) throws " + ARGUMENT,
        "int make(int,int,int) throws " + ARGUMENT + "," + UNSUPPORTED,
        "int rule(int) throws " + ARGUMENT + "," + UNSUPPORTED,
        "int given(int) throws " + ARGUMENT,
        "int run() throws " + UNSUPPORTED,
        "int outcome(int,int) throws " + INDEX,
        "int witness(int,int) throws " + INDEX,
        "int look(int) throws " + INDEX + "," + UNSUPPORTED,
        "int source(int) throws " + INDEX,
        "int order(int,int) throws " + INDEX,
        "boolean related(int,int,int) throws " + INDEX,
        "int ring()",
        "int ringAt(int) throws " + INDEX,
        "int count(int)",
        "int clear()"));

    public static void main(String[] args) {
        Class<?> face = OrderAxioms.class;
        Checks.due("the class is public and final",
            Modifier.isPublic(face.getModifiers()) && Modifier.isFinal(face.getModifiers()), true);
        Checks.due("its constructors", face.getDeclaredConstructors().length, 1);
        Checks.due("its public constructors", face.getConstructors().length, 1);
        Checks.due("NONE", OrderAxioms.NONE, -1);
        checkMethods(face);
        checkFields(face);
        for (Class<?> inside : face.getDeclaredClasses()) {
            Checks.due(inside.getName() + " is static and not to be seen",
                Modifier.isStatic(inside.getModifiers())
                    && !Modifier.isPublic(inside.getModifiers())
                    && !Modifier.isProtected(inside.getModifiers()), true);
        }
        Checks.end("FaceTest");
    }

    private static void checkMethods(Class<?> face) {
        Set<String> open = new TreeSet<>();
        Set<String> openNames = new TreeSet<>();
        for (Method method : face.getDeclaredMethods()) {
            if (!Modifier.isPrivate(method.getModifiers())) {
                open.add(textOf(method));
                openNames.add(method.getName());
                Checks.due(textOf(method) + " is public and of an object",
                    Modifier.isPublic(method.getModifiers())
                        && !Modifier.isStatic(method.getModifiers()), true);
            }
        }
        Checks.due("the open methods", open.toString(), METHODS.toString());
        checkNames(face, openNames);
        for (Class<?> inside : face.getDeclaredClasses()) {
            checkNames(inside, openNames);
        }
    }

    private static void checkNames(Class<?> checked, Set<String> openNames) {
        for (Method method : checked.getDeclaredMethods()) {
            boolean ofFace = checked == OrderAxioms.class && Modifier.isPublic(method.getModifiers());
            Checks.due(checked.getName() + "." + method.getName() + " bears a name of the face",
                !ofFace && openNames.contains(method.getName()), false);
        }
    }

    private static void checkFields(Class<?> face) {
        for (Field field : face.getDeclaredFields()) {
            boolean isNone = field.getName().equals("NONE");
            Checks.due(field.getName() + " is to be seen",
                !Modifier.isPrivate(field.getModifiers()), isNone);
            Checks.due(field.getName() + " is static and not final",
                Modifier.isStatic(field.getModifiers()) && !Modifier.isFinal(field.getModifiers()),
                false);
        }
    }

    private static String textOf(Method method) {
        StringBuilder text = new StringBuilder();
        text.append(method.getReturnType().getSimpleName()).append(' ').append(method.getName());
        text.append('(');
        for (Class<?> parameter : method.getParameterTypes()) {
            text.append(text.charAt(text.length() - 1) == '(' ? "" : ",");
            text.append(parameter.getSimpleName());
        }
        text.append(')');
        for (Class<?> thrown : method.getExceptionTypes()) {
            text.append(text.charAt(text.length() - 1) == ')' ? " throws " : ",");
            text.append(thrown.getSimpleName());
        }
        return text.toString();
    }
}
