import java.lang.reflect.Constructor;
import java.lang.reflect.Field;
import java.lang.reflect.Method;
import java.lang.reflect.Modifier;
import java.util.ArrayList;
import java.util.HashSet;
import java.util.List;
import java.util.Set;
import java.util.TreeSet;

/** The public face is the document's, and the classes keep to the rules of LANGUAGE.md that reflection shows. */
public final class FaceTest {
    private static final String BOUNDS = " throws IndexOutOfBoundsException";
    private static final String ARGUMENT = "IllegalArgumentException";
    private static final String STATE = "IllegalStateException";
    private static final String ABSENT = "NoSuchElementException";

    private static final String[] METHODS = {
        "int append(int, int, int, int, int) throws " + STATE,
        "int truncate(int)" + BOUNDS,
        "int load(int)" + BOUNDS + ", " + ARGUMENT,
        "int errorCode()",
        "int errorPosition()",
        "int image(int, int)" + BOUNDS + ", " + ARGUMENT,
        "int partition(int, int, int)" + BOUNDS + ", " + ARGUMENT,
        "int node(int, int, int)" + BOUNDS + ", " + ARGUMENT,
        "int byInode(int, int, int)" + BOUNDS + ", " + ABSENT,
        "int formatPath(int, int)" + BOUNDS,
        "int formatted(int)" + BOUNDS,
        "int rename(int, int, int)" + BOUNDS + ", " + ARGUMENT + ", " + STATE,
        "int write(int, int, int)" + BOUNDS + ", " + ARGUMENT + ", " + STATE,
        "int setAttributes(int, int, int)" + BOUNDS + ", " + ARGUMENT,
        "int remove(int, int)" + BOUNDS,
        "int move(int, int, int)" + BOUNDS + ", " + ARGUMENT + ", " + STATE,
        "void swap()",
        "int matchedPartition(int)" + BOUNDS,
        "int matchedNode(int)" + BOUNDS,
        "int passOf(int)" + BOUNDS,
        "int matches(int) throws " + ARGUMENT,
        "double similarity() throws " + ABSENT,
        "int setCost(int, int) throws " + ARGUMENT,
        "int operations()",
        "int operation(int, int)" + BOUNDS + ", " + ARGUMENT,
        "int operationsOf(int) throws " + ARGUMENT,
        "int cost()",
        "int costBack()",
        "int present(int)" + BOUNDS,
        "int agreement(int)" + BOUNDS,
        "int readyAfter(int)" + BOUNDS,
        "int leastFileCost()",
        "int fileCost()",
    };

    public static void main(String[] args) {
        face();
        classes();
        Kit.end("FaceTest");
    }

    private static void face() {
        Class<?> type = DiskImageDiff.class;
        Kit.sameText("class", Modifier.toString(type.getModifiers()), "public final");
        Kit.sameText("superclass", type.getSuperclass().getName(), "java.lang.Object");
        Kit.same("interfaces", type.getInterfaces().length, 0);
        Kit.sameText("methods", publicMethods(type).toString(), new TreeSet<>(List.of(METHODS)).toString());
        Constructor<?>[] constructors = type.getDeclaredConstructors();
        Kit.same("constructors", constructors.length, 1);
        Kit.sameText("constructor", constructors[0].toString(), "public DiskImageDiff()");
        List<String> visible = new ArrayList<>();
        for (Field field : type.getDeclaredFields()) {
            if (!Modifier.isPrivate(field.getModifiers())) {
                visible.add(field.toString());
            }
        }
        Kit.sameText("visible fields", visible.toString(), "[public static final int DiskImageDiff.NONE]");
    }

    private static Set<String> publicMethods(Class<?> type) {
        Set<String> shown = new TreeSet<>();
        Set<String> names = new HashSet<>();
        for (Method method : type.getDeclaredMethods()) {
            if (!Modifier.isPrivate(method.getModifiers())) {
                names.add(method.getName());
                shown.add(show(method));
            }
        }
        for (Method method : type.getDeclaredMethods()) {
            boolean hidden = Modifier.isPrivate(method.getModifiers());
            Kit.sameText("private " + method.getName(), String.valueOf(hidden && names.contains(method.getName())), "false");
        }
        return shown;
    }

    private static String show(Method method) {
        StringBuilder text = new StringBuilder(method.getReturnType().getSimpleName());
        text.append(' ').append(method.getName()).append('(');
        for (int i = 0; i < method.getParameterCount(); i++) {
            text.append(i == 0 ? "" : ", ").append(method.getParameterTypes()[i].getSimpleName());
        }
        text.append(')');
        for (int i = 0; i < method.getExceptionTypes().length; i++) {
            text.append(i == 0 ? " throws " : ", ").append(method.getExceptionTypes()[i].getSimpleName());
        }
        return text.toString();
    }

    private static void classes() {
        List<Class<?>> all = new ArrayList<>(List.of(DiskImageDiff.class.getDeclaredClasses()));
        all.add(DiskImageDiff.class);
        Kit.sameText("at most twelve classes", String.valueOf(all.size() <= 12), "true");
        for (Class<?> type : all) {
            int fields = 0;
            for (Field field : type.getDeclaredFields()) {
                boolean constant = Modifier.isStatic(field.getModifiers());
                fields += constant ? 0 : 1;
                boolean changing = constant && !Modifier.isFinal(field.getModifiers());
                Kit.sameText("static state " + field, String.valueOf(changing), "false");
            }
            Kit.sameText("at most twenty fields in " + type, String.valueOf(fields <= 20), "true");
            for (Method method : type.getDeclaredMethods()) {
                Kit.sameText("parameters of " + method, String.valueOf(method.getParameterCount() <= 7), "true");
            }
        }
    }
}
