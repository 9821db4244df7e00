import java.lang.reflect.Constructor;
import java.lang.reflect.Field;
import java.lang.reflect.Method;
import java.lang.reflect.Modifier;
import java.util.Arrays;
import java.util.TreeSet;

/** The public face: what the document declares, and no other member that is not private. */
public final class FaceTest {
    private static final String[] CONSTANTS = {
        "NO_SUCH", "BAD_VALUE", "TOO_MANY", "NOT_POSSIBLE", "NONE", "CAPACITY", "REINSERT"};
    private static final String[] METHODS = {
        "int insert(int, int, int, int)", "int remove(int)", "int pack()", "int setSetting(int, int)",
        "int append(int)", "int clearText()", "int fault()", "int read()", "int undo()", "int save()",
        "int restore()", "int boxes()", "int side(int, int)", "int nodes()", "int height()", "int level(int)",
        "int entries(int)", "int entry(int, int)", "int bound(int, int)", "int leafOf(int)", "int setting(int)",
        "int splits()", "int reinsertions()", "int meeting(int, int, int, int)", "int inside(int, int, int, int)",
        "int visits(int, int, int, int)", "int nearest(int, int)", "int area(int)", "int overlap(int)",
        "float fill()"};
    private static final Check CHECK = new Check();

    private FaceTest() {
    }

    public static void main(String[] args) {
        theClass();
        constants();
        constructors();
        methods();
        CHECK.end("FaceTest");
    }

    private static void isTrue(String what, boolean holds) {
        CHECK.due(what, holds ? 1 : 0, 1);
    }

    private static void theClass() {
        Class<?> face = RectangleTree.class;
        isTrue("the class is public and final", face.getModifiers() == (Modifier.PUBLIC | Modifier.FINAL));
        isTrue("the class has no package", face.getPackageName().isEmpty());
        isTrue("the class extends nothing", face.getSuperclass() == Object.class);
        isTrue("the class implements nothing", face.getInterfaces().length == 0);
        for (Class<?> inside : face.getDeclaredClasses()) {
            int kind = inside.getModifiers();
            isTrue(inside.getName() + " is not public", !Modifier.isPublic(kind) && !Modifier.isProtected(kind));
        }
    }

    private static void constants() {
        TreeSet<String> found = new TreeSet<>();
        for (Field field : RectangleTree.class.getDeclaredFields()) {
            if (!Modifier.isPrivate(field.getModifiers())) {
                found.add(field.getName());
                isTrue(field.getName() + " is a constant",
                    field.getModifiers() == (Modifier.PUBLIC | Modifier.STATIC | Modifier.FINAL)
                        && field.getType() == int.class);
            }
        }
        same("constant", found, CONSTANTS);
    }

    private static void constructors() {
        Constructor<?>[] all = RectangleTree.class.getDeclaredConstructors();
        CHECK.due("constructors", all.length, 1);
        isTrue("the constructor is public", all[0].getModifiers() == Modifier.PUBLIC);
        CHECK.due("arguments of the constructor", all[0].getParameterCount(), 0);
        CHECK.due("exceptions of the constructor", all[0].getExceptionTypes().length, 0);
    }

    private static void methods() {
        TreeSet<String> found = new TreeSet<>();
        TreeSet<String> names = new TreeSet<>();
        for (Method method : RectangleTree.class.getDeclaredMethods()) {
            if (!Modifier.isPrivate(method.getModifiers())) {
                found.add(declaration(method));
                names.add(method.getName());
                isTrue(method.getName() + " is just public", method.getModifiers() == Modifier.PUBLIC);
                CHECK.due("exceptions of " + method.getName(), method.getExceptionTypes().length, 0);
            }
        }
        same("method", found, METHODS);
        for (Method method : RectangleTree.class.getDeclaredMethods()) {
            isTrue("no private method is called " + method.getName(),
                !Modifier.isPrivate(method.getModifiers()) || !names.contains(method.getName()));
        }
    }

    private static String declaration(Method method) {
        String[] types = Arrays.stream(method.getParameterTypes()).map(Class::getName).toArray(String[]::new);
        return method.getReturnType().getName() + " " + method.getName() + "(" + String.join(", ", types) + ")";
    }

    private static void same(String kind, TreeSet<String> found, String[] due) {
        for (String one : due) {
            isTrue("the " + kind + " " + one + " is there", found.remove(one));
        }
        for (String one : found) {
            isTrue("the document has the " + kind + " " + one, false);
        }
    }
}
