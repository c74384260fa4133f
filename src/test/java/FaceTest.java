import java.lang.reflect.Field;
import java.lang.reflect.Method;
import java.lang.reflect.Modifier;
import java.util.TreeSet;

/** The public face: the document's constants, constructor and methods, and no other member. */
final class FaceTest {
    private static final Check check = new Check();

    public static void main(String[] args) {
        check.begin("face");
        check.due("public and final", MarkupStore.class.getModifiers(), Modifier.PUBLIC | Modifier.FINAL);
        check.due("constructors", MarkupStore.class.getDeclaredConstructors().length, 1);
        check.due("public constructors", MarkupStore.class.getConstructors().length, 1);
        methods();
        fields();
        check.end("FaceTest");
    }

    private static void methods() {
        TreeSet<String> face = new TreeSet<>();
        TreeSet<String> names = new TreeSet<>();
        for (Method method : MarkupStore.class.getDeclaredMethods()) {
            if (Modifier.isPublic(method.getModifiers())) {
                face.add(signature(method));
                names.add(method.getName());
            }
        }
        check.due("methods", face.toString(), "[boolean replace(int), boolean type(char), int commit(), "
                + "int crash(), int insert(int,int), int kind(int), int label(int,int), int length(), "
                + "int letter(int,int), int load(), int node(int,int), int nodes(), int query(int), "
                + "int remove(int), int result(int), int root(), int written(int)]");
        for (Method method : MarkupStore.class.getDeclaredMethods()) {
            if (!Modifier.isPublic(method.getModifiers())) {
                check.due(method + " is private", Modifier.isPrivate(method.getModifiers()), true);
                check.due(method + " has a name of the face", names.contains(method.getName()), false);
            }
        }
    }

    private static String signature(Method method) {
        StringBuilder types = new StringBuilder();
        for (Class<?> type : method.getParameterTypes()) {
            types.append(types.length() == 0 ? "" : ",").append(type.getName());
        }
        return method.getReturnType().getName() + " " + method.getName() + "(" + types + ")";
    }

    private static void fields() {
        TreeSet<String> face = new TreeSet<>();
        for (Field field : MarkupStore.class.getDeclaredFields()) {
            int modifiers = field.getModifiers();
            if (!Modifier.isPrivate(modifiers)) {
                face.add(field.getType().getName() + " " + field.getName());
            }
            boolean changing = Modifier.isStatic(modifiers) && !Modifier.isFinal(modifiers);
            check.due(field + " is static and changes", changing, false);
        }
        check.due("constants", face.toString(), "[int MISSING, int REFUSED]");
    }
}
