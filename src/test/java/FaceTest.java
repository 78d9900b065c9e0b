import java.lang.reflect.Constructor;
import java.lang.reflect.Field;
import java.lang.reflect.Method;
import java.lang.reflect.Modifier;
import java.util.Arrays;
import java.util.TreeSet;

/** The face name by name, type by type, and nothing else that could be seen. */
public final class FaceTest {

    private static final String INDEX = " throws java.lang.IndexOutOfBoundsException";
    private static final String ARGUMENT = "java.lang.IllegalArgumentException";
    private static final String STATE = "java.lang.IllegalStateException";

    private static final String[] FACE = {
        "int edge(int,int,int,int)" + INDEX + "," + ARGUMENT,
        "int lay(int) throws " + ARGUMENT,
        "int cell(int,boolean,boolean)" + INDEX,
        "int walker(int,int,int,boolean)" + INDEX + "," + ARGUMENT + "," + STATE,
        "boolean forward(int,boolean)" + INDEX + "," + STATE,
        "int turn(int,boolean,boolean)" + INDEX + "," + STATE,
        "int feel(int,boolean)" + INDEX + "," + STATE,
        "int listen(int,boolean)" + INDEX + "," + STATE,
        "int charge(int,int)" + INDEX + "," + ARGUMENT + "," + STATE,
        "int tellPose(int)" + INDEX,
        "int meet(int,int)" + INDEX + "," + ARGUMENT + "," + STATE,
        "int pass(int) throws " + ARGUMENT + "," + STATE,
        "int call()",
        "int ofEdge(int,int,int)" + INDEX + "," + ARGUMENT,
        "int ofWalker(int,int)" + INDEX + "," + ARGUMENT,
        "int house(int) throws " + ARGUMENT,
        "java.lang.String row(int)" + INDEX,
        "int map(int,int,int)" + INDEX,
        "boolean may(int,int)" + INDEX,
        "long where(int,int)" + INDEX + "," + ARGUMENT,
        "int way(int,int,int)" + INDEX,
        "int safety(int,int)" + INDEX + "," + ARGUMENT,
        "double doubt(int)" + INDEX,
        "int worst(int,int)" + INDEX + "," + ARGUMENT,
        "int best(int)" + INDEX,
        "int wouldFeel(int,int)" + INDEX + "," + ARGUMENT,
        "int wouldBe(int,int)" + INDEX + "," + ARGUMENT,
        "boolean isSound()",
        "long digest()"};

    private FaceTest() {
    }

    public static void main(String[] args) {
        Class<?> face = Bumpward.class;
        Due.same("the class is public and final", face.getModifiers(), Modifier.PUBLIC | Modifier.FINAL);
        TreeSet<String> names = new TreeSet<>();
        TreeSet<String> found = new TreeSet<>();
        for (Method method : face.getDeclaredMethods()) {
            if (Modifier.isPublic(method.getModifiers())) {
                found.add(signature(method));
                names.add(method.getName());
            }
        }
        Due.text("the public methods", found.toString(), new TreeSet<>(Arrays.asList(FACE)).toString());
        for (Method method : face.getDeclaredMethods()) {
            if (!Modifier.isPublic(method.getModifiers())) {
                Due.so(method + " is private", Modifier.isPrivate(method.getModifiers()));
                Due.so(method + " has a name of its own", !names.contains(method.getName()));
            }
        }
        for (Field field : face.getDeclaredFields()) {
            Due.so(field + " is private", Modifier.isPrivate(field.getModifiers()));
        }
        Constructor<?>[] made = face.getDeclaredConstructors();
        Due.same("one constructor", made.length, 1);
        Due.so("a public one without arguments",
                Modifier.isPublic(made[0].getModifiers()) && made[0].getParameterCount() == 0);
        for (Class<?> inner : face.getDeclaredClasses()) {
            int modifiers = inner.getModifiers();
            Due.so(inner + " is static and not public",
                    Modifier.isStatic(modifiers) && !Modifier.isPublic(modifiers) && !Modifier.isProtected(modifiers));
        }
        Due.end("FaceTest");
    }

    private static String signature(Method method) {
        String text = method.toGenericString();
        return text.replace("public ", "").replace("Bumpward.", "").replace(", ", ",");
    }
}
