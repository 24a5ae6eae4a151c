import java.lang.reflect.Constructor;
import java.lang.reflect.Field;
import java.lang.reflect.Method;
import java.lang.reflect.Modifier;
import java.util.Arrays;
import java.util.TreeSet;

/** The public face: just the constructor, the methods and the constants of the document. */
public final class FaceTest {
    private static final String[] METHODS = {
        "int clear()", "int lines()", "int section(int)", "int label(int)", "int code(int,int,int,int,int)",
        "int word(int,int)", "int space(int)", "int vector(int,int,int)", "int macro(int)", "int endMacro()",
        "int use(int,int,int,int,int)", "int error()", "int assemble()", "int image(int)", "int start()",
        "int crash()", "int format()", "int step(int)", "int runTo(int,int)", "int back(int)", "int press(int)",
        "int state()", "int fault()", "int steps()", "int kept()", "int counter()", "int stack()", "int flags()",
        "int writesLeft()", "int register(int)", "int memory(int)", "int changedAt(int)", "int tape()",
        "int tapeAt(int)", "int sum()", "int sumAnew(int)", "int written()", "int disk(int,int)", "int files()",
        "int size(int)", "int wordOf(int,int)", "int freeBlocks()", "boolean isWhole()", "int testKey(int)",
        "int testWord(int)", "int addTest(int,int,int,int)", "int tests()", "int submit()", "int result(int)",
        "int mark()"};
    private static final String[] CONSTANTS = {
        "NUMBER = 0", "LABEL = 1", "FIRST = 2", "SECOND = 3", "TOO_LONG = 1", "LABEL_TWICE = 2",
        "MACRO_TWICE = 3", "NESTED = 4", "MACRO_MISSING = 5", "LABEL_MISSING = 6", "NO_ARGUMENT = 7", "OFF = 0",
        "RUNS = 1", "HALTED = 2", "FAULTED = 3", "BAD_ADDRESS = 1", "BAD_OPERATION = 2", "BAD_STACK = 3",
        "TAPE_FULL = 4", "PASSED = 0", "FAILED_BY_FAULT = 1", "SLOW = 2", "GREEDY = 3", "WRONG = 4",
        "UNSOUND = 5"};

    public static void main(String[] args) throws IllegalAccessException {
        TreeSet<String> methods = new TreeSet<>();
        TreeSet<String> publicNames = new TreeSet<>();
        for (Method method : KernelGym.class.getDeclaredMethods()) {
            if (Modifier.isPublic(method.getModifiers())) {
                methods.add(method.getReturnType().getName() + " " + method.getName()
                    + Arrays.toString(method.getParameterTypes()).replaceAll("[\\[ ]", "").replace("]", ""));
                publicNames.add(method.getName());
            } else {
                Check.holds(method.getName() + " is private", Modifier.isPrivate(method.getModifiers()));
            }
        }
        TreeSet<String> wanted = new TreeSet<>();
        for (String method : METHODS) {
            wanted.add(method.replace("(", "").replace(")", ""));
        }
        Check.same("the methods", wanted, methods);
        checkNames(publicNames);
        checkConstants();
        checkRest();
        Check.end();
    }

    private static void checkNames(TreeSet<String> publicNames) {
        for (Class<?> type : KernelGym.class.getDeclaredClasses()) {
            Check.holds(type + " is static", Modifier.isStatic(type.getModifiers()));
            Check.holds(type + " is not public",
                !Modifier.isPublic(type.getModifiers()) && !Modifier.isProtected(type.getModifiers()));
            for (Method method : type.getDeclaredMethods()) {
                Check.holds(type + "." + method.getName() + " has no public name",
                    !publicNames.contains(method.getName()));
            }
        }
    }

    private static void checkConstants() throws IllegalAccessException {
        TreeSet<String> constants = new TreeSet<>();
        for (Field field : KernelGym.class.getDeclaredFields()) {
            int modifiers = field.getModifiers();
            if (Modifier.isPublic(modifiers)) {
                Check.holds(field.getName() + " is constant",
                    Modifier.isStatic(modifiers) && Modifier.isFinal(modifiers));
                constants.add(field.getName() + " = " + field.getInt(null));
            } else {
                Check.holds(field.getName() + " is private", Modifier.isPrivate(modifiers));
            }
        }
        Check.same("the constants", new TreeSet<>(Arrays.asList(CONSTANTS)), constants);
    }

    private static void checkRest() {
        Constructor<?>[] constructors = KernelGym.class.getDeclaredConstructors();
        Check.due("constructors", 1, constructors.length);
        Check.due("parameters of the constructor", 0, constructors[0].getParameterCount());
        Check.holds("the constructor is public", Modifier.isPublic(constructors[0].getModifiers()));
        Check.holds("the class is final", Modifier.isFinal(KernelGym.class.getModifiers()));
        Check.holds("the class has no class above", KernelGym.class.getSuperclass() == Object.class);
    }
}
