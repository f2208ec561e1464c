import java.lang.reflect.Constructor;
import java.lang.reflect.Field;
import java.lang.reflect.Member;
import java.lang.reflect.Method;
import java.lang.reflect.Modifier;
import java.util.ArrayList;
import java.util.Arrays;
import java.util.HashSet;
import java.util.List;
import java.util.Set;
import java.util.TreeSet;

/** The face: the members that the document tells, with their exceptions, and no others that can be seen. */
public final class FaceTest {
    private static final String ARGUMENT = "IllegalArgumentException";
    private static final String STATE = "IllegalStateException";
    private static final String INDEX = "IndexOutOfBoundsException";
    private static final String UNSUPPORTED = "UnsupportedOperationException";
    private static final String[] FACE = {
        "int type(char) " + ARGUMENT + " " + STATE,
        "int clear()", "int fault()",
        "int add() " + ARGUMENT + " " + STATE,
        "int replace(int) " + INDEX + " " + ARGUMENT,
        "int setTurns(int) " + ARGUMENT + " " + UNSUPPORTED,
        "int setBits(int) " + ARGUMENT,
        "int unroll(int) " + ARGUMENT + " " + UNSUPPORTED + " " + STATE,
        "int input(int) " + ARGUMENT + " " + STATE,
        "int setMemory(char int int) " + ARGUMENT,
        "int setUnits(char int) " + ARGUMENT + " " + UNSUPPORTED,
        "int setCycles(char int) " + ARGUMENT,
        "int outputs()",
        "int output(int) " + INDEX,
        "int memoryAt(char int) " + ARGUMENT,
        "int register(char) " + ARGUMENT,
        "int taken()", "int nodes()",
        "char kindOf(int) " + INDEX,
        "int statementOf(int) " + INDEX,
        "int edges()",
        "int weight(int int int) " + INDEX + " NoSuchElementException",
        "int soon(int) " + INDEX,
        "int late(int) " + INDEX,
        "int step(int) " + INDEX,
        "int length()", "int inStep(int)", "int waiting()", "int byRings()", "int byUnits()", "int interval()",
        "char binds()",
        "int place(int) " + INDEX,
        "int cycles()", "int oneByOne()", "int circuitOutputs()",
        "int circuitOutput(int) " + INDEX,
        "int circuitMemory(char int) " + ARGUMENT,
        "boolean isSame()",
        "int action(int int boolean) " + ARGUMENT + " " + STATE,
        "int setDepth(int int) " + ARGUMENT,
        "int done()",
        "int waitsFor(int) " + ARGUMENT,
        "boolean areLocked()",
        "int leastDepth() NoSuchElementException",
        "long checksum()",
        "float busyShare(char) " + ARGUMENT,
        "double meanStep() ArithmeticException",
        "boolean isSound()"};

    private static String told(Method method) {
        List<String> types = new ArrayList<>();
        for (Class<?> type : method.getParameterTypes()) {
            types.add(type.getSimpleName());
        }
        StringBuilder all = new StringBuilder(method.getReturnType().getSimpleName());
        all.append(' ').append(method.getName()).append('(').append(String.join(" ", types)).append(')');
        for (Class<?> thrown : method.getExceptionTypes()) {
            all.append(' ').append(thrown.getSimpleName());
        }
        return all.toString();
    }

    private static boolean isSeen(Member member) {
        return !Modifier.isPrivate(member.getModifiers()) && !member.isSynthetic();
    }

    public static void main(String[] args) {
        Checks checks = new Checks();
        Class<?> face = Schedulary.class;
        checks.same("modifiers", face.getModifiers(), Modifier.PUBLIC | Modifier.FINAL);
        Set<String> seen = new TreeSet<>();
        Set<String> names = new HashSet<>();
        for (Method method : face.getDeclaredMethods()) {
            if (isSeen(method)) {
                checks.same("modifiers of " + method.getName(), method.getModifiers(), Modifier.PUBLIC);
                seen.add(told(method));
                names.add(method.getName());
            }
        }
        checks.same("methods", seen, new TreeSet<>(Arrays.asList(FACE)));
        for (Field field : face.getDeclaredFields()) {
            checks.same(field.getName() + " is seen", isSeen(field), false);
        }
        Constructor<?>[] constructors = face.getDeclaredConstructors();
        checks.same("constructors", constructors.length, 1);
        checks.same("the constructor", constructors[0].toString(), "public Schedulary()");
        List<Class<?>> classes = new ArrayList<>(Arrays.asList(face.getDeclaredClasses()));
        checks.holds("at most twelve classes", classes.size() < 12);
        classes.add(face);
        for (Class<?> inside : classes) {
            int fields = 0;
            for (Field field : inside.getDeclaredFields()) {
                boolean isStatic = Modifier.isStatic(field.getModifiers());
                checks.holds(field + " is final if it is static", !isStatic || Modifier.isFinal(field.getModifiers()));
                fields += isStatic ? 0 : 1;
            }
            checks.holds(inside + " has at most twenty fields", fields <= 20);
            for (Method method : inside.getDeclaredMethods()) {
                checks.holds(method + " has at most seven parameters", method.getParameterCount() <= 7);
                boolean isOwn = Modifier.isPublic(method.getModifiers()) || !names.contains(method.getName());
                checks.holds(method + " has a name of its own", isOwn);
            }
        }
        checks.end("FaceTest");
    }
}
