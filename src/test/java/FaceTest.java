import java.lang.reflect.Constructor;
import java.lang.reflect.Field;
import java.lang.reflect.Method;
import java.lang.reflect.Modifier;
import java.util.Arrays;
import java.util.TreeSet;

/** The public face of the document, and what LANGUAGE.md says of the class's members. */
final class FaceTest {
    private static final String[] METHODS = {
        "boolean add(int)", "boolean put(int)", "void discard()", "int commit()", "boolean truncate(int)",
        "boolean poke(int,int)", "int salvage()", "int length()", "int byteAt(int)", "boolean isOpenable()",
        "long dirInfo(int,int)", "int sizeOf(int)", "int dataAt(int,int)", "long pendingInfo(int,int)",
        "long foundInfo(int,int)"};
    private static final String[] CONSTANTS = {
        "MIN_CAPACITY=64", "MAX_CAPACITY=256", "LOCAL_HEADER=11", "CENTRAL_SIZE=13", "END_SIZE=9",
        "MAX_PENDING=8", "PENDING_BYTES=128", "ERR_EMPTY=-1", "ERR_DAMAGED=-2", "ERR_FULL=-3",
        "INFO_NAME=0", "INFO_SIZE=1", "INFO_CRC=2", "INFO_OFFSET=3"};

    public static void main(String[] args) throws IllegalAccessException {
        int modifiers = ZipRecover.class.getModifiers();
        Check.due("public", Modifier.isPublic(modifiers), true);
        Check.due("final", Modifier.isFinal(modifiers), true);
        Check.due("superclass", ZipRecover.class.getSuperclass().getName(), "java.lang.Object");
        Check.due("interfaces", ZipRecover.class.getInterfaces().length, 0);
        Check.due("nested classes", ZipRecover.class.getDeclaredClasses().length, 0);
        constructors();
        methods();
        fields();
        Check.end();
    }

    private static void constructors() {
        Constructor<?>[] all = ZipRecover.class.getDeclaredConstructors();
        Check.due("constructors", Arrays.toString(all), "[public ZipRecover(int)]");
    }

    private static void methods() {
        TreeSet<String> open = new TreeSet<>();
        TreeSet<String> openNames = new TreeSet<>();
        for (Method method : ZipRecover.class.getDeclaredMethods()) {
            if (!Modifier.isPrivate(method.getModifiers())) {
                String parameters = Arrays.toString(method.getParameterTypes()).replaceAll("[\\[\\] ]", "");
                open.add(method.getReturnType() + " " + method.getName() + "(" + parameters + ")");
                openNames.add(method.getName());
                Check.due(method + " is public, not static", method.getModifiers(), Modifier.PUBLIC);
            }
        }
        Check.due("methods", open.toString(), new TreeSet<>(Arrays.asList(METHODS)).toString());
        for (Method method : ZipRecover.class.getDeclaredMethods()) {
            if (Modifier.isPrivate(method.getModifiers())) {
                Check.due(method + " bears a public name", openNames.contains(method.getName()), false);
                Check.due(method + " takes too much", method.getParameterCount() > 7, false);
            }
        }
    }

    private static void fields() throws IllegalAccessException {
        TreeSet<String> open = new TreeSet<>();
        for (Field field : ZipRecover.class.getDeclaredFields()) {
            int modifiers = field.getModifiers();
            if (!Modifier.isPrivate(modifiers)) {
                Check.due(field + "", field.toString(), "public static final int ZipRecover." + field.getName());
                open.add(field.getName() + "=" + field.getInt(null));
            }
            if (Modifier.isStatic(modifiers)) {
                boolean number = field.getType() == int.class || field.getType() == long.class;
                Check.due(field + " is a constant number", number && Modifier.isFinal(modifiers), true);
            }
        }
        Check.due("constants", open.toString(), new TreeSet<>(Arrays.asList(CONSTANTS)).toString());
    }
}
