import java.lang.reflect.Constructor;
import java.lang.reflect.Field;
import java.lang.reflect.Method;
import java.lang.reflect.Modifier;
import java.util.ArrayList;
import java.util.List;
import java.util.Set;
import java.util.TreeSet;

/** The face of the class is that of the document, and what is inside keeps to ../shared/LANGUAGE.md. */
public final class FaceTest {
    private static final Check CHECK = new Check("FaceTest");
    // Some twelve, and some twenty.
    private static final int MOST_CLASSES = 13;
    private static final int MOST_FIELDS = 22;
    private static final int MOST_PARAMETERS = 7;

    private static final String[] FACE = {
        "long result(boolean) ArithmeticException",
        "int write() IllegalStateException",
        "int type(long) IllegalArgumentException IllegalStateException",
        "int wipe()",
        "int signAt(int) IndexOutOfBoundsException",
        "int fault()",
        "int read() IllegalArgumentException IllegalStateException",
        "int come(int int int int) IllegalArgumentException IllegalStateException",
        "int clear()",
        "int undo() NoSuchElementException",
        "int line(int int int int) IllegalArgumentException",
        "int jobAt(int int) IndexOutOfBoundsException IllegalArgumentException",
        "int numberAt(int)",
        "int meanTime(int) IllegalArgumentException",
        "int sumTimes(boolean)",
        "int states(int int) IllegalArgumentException",
        "int chance(int int int) IndexOutOfBoundsException IllegalArgumentException",
        "int group(int) IndexOutOfBoundsException NoSuchElementException",
        "int longShare(int) IndexOutOfBoundsException NoSuchElementException",
        "int reach(int int) IndexOutOfBoundsException NoSuchElementException",
        "int timeTo(int int) IndexOutOfBoundsException NoSuchElementException",
        "int behind(int int int) IndexOutOfBoundsException IllegalArgumentException NoSuchElementException",
        "int lostShare(int int int) IllegalArgumentException",
        "int serversFor(int int int int) IllegalArgumentException NoSuchElementException",
        "int net(int) IllegalArgumentException",
        "int node(int int int) IndexOutOfBoundsException IllegalArgumentException",
        "int way(int int int) IndexOutOfBoundsException IllegalArgumentException",
        "int rate(int) IndexOutOfBoundsException NoSuchElementException",
        "boolean isStable(int) IndexOutOfBoundsException NoSuchElementException",
        "int numbers(int int) IndexOutOfBoundsException IllegalArgumentException NoSuchElementException",
        "int growth(int) IndexOutOfBoundsException NoSuchElementException",
        "int closed(int int) IndexOutOfBoundsException IllegalArgumentException IllegalStateException",
        "int envelope(int int int) IllegalArgumentException",
        "int server(int int int) IllegalArgumentException IllegalStateException",
        "int bound(boolean) NoSuchElementException",
        "boolean fits()",
        "int option(int int int) IllegalArgumentException",
        "int split(int int boolean) IllegalArgumentException",
        "int price(int) IllegalArgumentException",
        "double mean()",
        "float doneShare()",
        "int errors()"};

    public static void main(String[] args) {
        CHECK.promise(1);
        constants();
        methods();
        constructors();
        classesInside();
        CHECK.end();
    }

    private static void constants() {
        List<String> visible = new ArrayList<>();
        for (Field field : Queueward.class.getDeclaredFields()) {
            if (!Modifier.isPrivate(field.getModifiers())) {
                visible.add(Modifier.toString(field.getModifiers()) + " " + field.getType() + " " + field.getName());
            }
        }
        CHECK.due("fields of the face", List.of("public static final int NONE"), () -> visible);
        CHECK.due("the class", Modifier.PUBLIC | Modifier.FINAL, Queueward.class::getModifiers);
        CHECK.due("its package", "", () -> Queueward.class.getPackageName());
    }

    private static void methods() {
        Set<String> visible = new TreeSet<>();
        for (Method method : Queueward.class.getDeclaredMethods()) {
            if (!Modifier.isPrivate(method.getModifiers())) {
                CHECK.due("modifiers of " + method, Modifier.PUBLIC, method::getModifiers);
                visible.add(told(method));
            }
        }
        CHECK.due("methods of the face", new TreeSet<>(List.of(FACE)), () -> visible);
    }

    private static String told(Method method) {
        StringBuilder text = new StringBuilder();
        for (Class<?> type : method.getParameterTypes()) {
            text.append(text.length() == 0 ? "" : " ").append(type.getSimpleName());
        }
        text.insert(0, method.getReturnType() + " " + method.getName() + "(").append(")");
        for (Class<?> type : method.getExceptionTypes()) {
            text.append(" ").append(type.getSimpleName());
        }
        return text.toString();
    }

    private static void constructors() {
        Constructor<?>[] all = Queueward.class.getDeclaredConstructors();
        CHECK.due("constructors", 1, () -> all.length);
        CHECK.due("its modifiers", Modifier.PUBLIC, () -> all[0].getModifiers());
        CHECK.due("its parameters", 0, () -> all[0].getParameterCount());
    }

    private static void classesInside() {
        List<Class<?>> all = new ArrayList<>(List.of(Queueward.class.getDeclaredClasses()));
        for (Class<?> inside : all) {
            CHECK.due(inside + " is not seen outside", 0,
                () -> inside.getModifiers() & (Modifier.PUBLIC | Modifier.PROTECTED));
        }
        all.add(Queueward.class);
        CHECK.due("not too many classes", true, () -> all.size() <= MOST_CLASSES);
        for (Class<?> type : all) {
            fieldsOf(type);
            methodsOf(type);
        }
    }

    private static void fieldsOf(Class<?> type) {
        int fields = 0;
        for (Field field : type.getDeclaredFields()) {
            boolean isStatic = Modifier.isStatic(field.getModifiers());
            fields += isStatic ? 0 : 1;
            CHECK.due(field + " is final, if it is static", true,
                () -> !isStatic || Modifier.isFinal(field.getModifiers()));
        }
        int count = fields;
        CHECK.due("not too many fields in " + type, true, () -> count <= MOST_FIELDS);
    }

    private static void methodsOf(Class<?> type) {
        Set<String> face = new TreeSet<>();
        for (String told : FACE) {
            face.add(told.substring(told.indexOf(' ') + 1, told.indexOf('(')));
        }
        for (Method method : type.getDeclaredMethods()) {
            CHECK.due("not too many parameters of " + method, true,
                () -> method.getParameterCount() <= MOST_PARAMETERS);
            CHECK.due(method + " has a name of its own", true,
                () -> Modifier.isPublic(method.getModifiers()) || !face.contains(method.getName()));
        }
    }
}
