import java.lang.reflect.InvocationTargetException;
import java.lang.reflect.Method;
import java.util.ArrayList;
import java.util.List;

/** Runs of calls, made by numbers from a fixed seed, whose answers are held against those of the Reference. */
public final class RandomTest {
    private static final String OPERATIONS = "+-*&|^l";
    private static final String KINDS = "amgMN<>";
    private static final String SIGNS = "0123456789abcdefghilMN=[]+-*&|^<>";
    private static final int[] WILD = {Integer.MIN_VALUE, -1000, -1, 0, 1, 16, 17, 24, 32, 96, 65535, 65536,
        Integer.MAX_VALUE};

    private static final int MOST_CALLS = 512;
    private static final List<String> CHANGING = List.of("type", "clear", "add", "replace", "setTurns", "setBits",
            "unroll", "input", "setMemory", "setUnits", "setCycles", "action", "setDepth");

    private final Checks checks = new Checks();
    private long seed;
    private Schedulary x;
    private Reference due;
    private List<String> calls;
    private List<Object[]> changes;
    private int used;

    private RandomTest(long seed) {
        this.seed = seed;
    }

    private int upTo(int most) {
        seed = seed * 6364136223846793005L + 1442695040888963407L;
        return (int) ((seed >>> 33) % (most + 1));
    }

    private Object answerOf(Object object, String name, Object... values) {
        for (Method method : object.getClass().getMethods()) {
            if (method.getName().equals(name) && method.getDeclaringClass() == object.getClass()) {
                try {
                    return method.invoke(object, values);
                } catch (InvocationTargetException e) {
                    return e.getCause().getClass();
                } catch (IllegalAccessException e) {
                    throw new AssertionError(e);
                }
            }
        }
        throw new AssertionError(name);
    }

    // An object answers for 512 calls: behind these another one is made alike, by the calls that change it.
    private void renew() {
        x = new Schedulary();
        used = changes.size();
        for (Object[] change : changes) {
            Object[] values = (Object[]) change[1];
            answerOf(x, (String) change[0], values);
        }
    }

    private void call(String name, Object... values) {
        if (used >= MOST_CALLS) {
            renew();
        }
        used++;
        if (CHANGING.contains(name)) {
            changes.add(new Object[] {name, values});
        }
        StringBuilder text = new StringBuilder(name);
        for (Object value : values) {
            text.append(' ').append(value);
        }
        calls.add(text.toString());
        checks.same(String.join(", ", calls), answerOf(x, name, values), answerOf(due, name, values));
    }

    private String index(int numbers) {
        if (upTo(3) == 0) {
            return "" + upTo(numbers);
        }
        return upTo(2) == 0 ? "i" : "i" + "+-".charAt(upTo(1)) + upTo(3);
    }

    private String operand(int registers) {
        switch (upTo(5)) {
            case 0:
                return "" + upTo(30);
            case 1:
                return "i";
            case 2:
                return "MN".charAt(upTo(1)) + "[" + index(3) + "]";
            case 3:
                return upTo(1) == 0 ? "<" : "M[" + index(17) + "]";
            default:
                return "" + (char) ('a' + upTo(registers));
        }
    }

    private String statement(int registers) {
        String target = "" + (char) ('a' + upTo(registers));
        int form = upTo(5);
        if (form == 0) {
            target = ">";
        } else if (form < 3) {
            target = "MN".charAt(upTo(1)) + "[" + index(3) + "]";
        }
        String all = target + "=" + operand(registers);
        return upTo(3) == 0 ? all : all + OPERATIONS.charAt(upTo(6)) + operand(registers);
    }

    private void typed(String signs) {
        for (char sign : signs.toCharArray()) {
            call("type", sign);
        }
    }

    private void change(int registers) {
        switch (upTo(8)) {
            case 0:
                call("setTurns", upTo(17));
                break;
            case 1:
                call("setBits", upTo(17));
                break;
            case 2:
                call("unroll", upTo(5));
                break;
            case 3:
                call("input", upTo(66000));
                break;
            case 4:
                call("setMemory", "MNO".charAt(upTo(2)), upTo(17) - 1, upTo(66000));
                break;
            case 5:
                call("setUnits", KINDS.charAt(upTo(6)), upTo(5));
                break;
            case 6:
                call("setCycles", KINDS.charAt(upTo(6)), upTo(6));
                break;
            case 7:
                typed(statement(registers));
                call("replace", upTo(12));
                call("clear");
                break;
            default:
                call("setDepth", upTo(4), upTo(8));
                call("action", upTo(4), upTo(4), upTo(1) == 0);
        }
    }

    private void askNode(int node) {
        for (String name : new String[] {"kindOf", "statementOf", "soon", "late", "step", "place"}) {
            call(name, node);
        }
    }

    private void askAll() {
        for (String name : new String[] {"outputs", "taken", "nodes", "edges", "length", "waiting", "byRings",
            "byUnits", "interval", "binds", "cycles", "oneByOne", "circuitOutputs", "isSame", "done", "areLocked",
            "leastDepth", "checksum", "meanStep", "isSound"}) {
            call(name);
        }
        for (int node = 0; node <= due.nodes(); node++) {
            askNode(node);
            call("weight", node, upTo(due.nodes()), upTo(3));
        }
        for (int index = 0; index <= due.outputs(); index++) {
            call("output", index);
            call("circuitOutput", index);
        }
        for (int place = 0; place < 16; place++) {
            call("memoryAt", "MN".charAt(place % 2), place);
            call("circuitMemory", "NM".charAt(place % 2), place);
        }
        for (int number = 0; number < 8; number++) {
            call("register", (char) ('a' + number));
            call("inStep", number);
            call("busyShare", "amgMN<>x".charAt(number));
        }
        for (int process = 0; process < 4; process++) {
            call("waitsFor", process);
        }
        askEdges();
    }

    // All pairs of a small body, and some of a great one, by the distances that are usual and by one beyond them.
    private void askEdges() {
        int count = due.nodes();
        int pairs = count > 6 ? 40 : count * count;
        for (int pair = 0; pair < pairs; pair++) {
            int from = count > 6 ? upTo(count - 1) : pair / count;
            int to = count > 6 ? upTo(count - 1) : pair % count;
            for (int distance = 0; distance < 3; distance++) {
                call("weight", from, to, distance);
            }
            call("weight", from, to, 3 + upTo(18));
        }
    }

    private void start() {
        x = new Schedulary();
        due = new Reference();
        calls = new ArrayList<>();
        changes = new ArrayList<>();
        used = 0;
    }

    private void runPrograms(int runs, int mostStatements) {
        for (int run = 0; run < runs; run++) {
            start();
            int registers = upTo(4);
            int statements = upTo(mostStatements);
            for (int statement = 0; statement < statements; statement++) {
                typed(statement(registers));
                call("fault");
                call("add");
            }
            for (int number = upTo(6); number > 0; number--) {
                call("input", upTo(300));
            }
            for (int part = 0; part < 3; part++) {
                for (int number = upTo(5); number >= 0; number--) {
                    change(registers);
                }
                askAll();
            }
        }
    }

    // As many nodes as can be, in the longest chains and with the most edges.
    private void runGreat() {
        String[] greats = {"M[0]=M[0]*M[0]", "M[i]=<+<", "N[i+9]=N[i-9]^N[3]", ">=<*<", "a=a*M[i]"};
        for (String great : greats) {
            start();
            for (int statement = 0; statement < 12; statement++) {
                typed(great);
                call("add");
            }
            askAll();
            call("unroll", 2);
            askAll();
            for (char kind : KINDS.toCharArray()) {
                call("setCycles", kind, 5);
            }
            askAll();
            call("setTurns", 16);
            call("setUnits", 'M', 4);
            call("setCycles", 'm', 1);
            askAll();
        }
    }

    private void runProcesses(int runs) {
        for (int run = 0; run < runs; run++) {
            start();
            int channels = upTo(3);
            for (int number = upTo(40); number > 0; number--) {
                call("action", upTo(3), upTo(channels), upTo(1) == 0);
            }
            for (int number = upTo(4); number > 0; number--) {
                call("setDepth", upTo(3), 1 + upTo(15));
            }
            for (String name : new String[] {"done", "areLocked", "leastDepth"}) {
                call(name);
            }
            for (int process = -1; process <= 4; process++) {
                call("waitsFor", process);
            }
        }
    }

    private void runTexts(int runs) {
        for (int run = 0; run < runs; run++) {
            start();
            StringBuilder signs = new StringBuilder(statement(7));
            for (int changes = upTo(2); changes > 0; changes--) {
                int place = upTo(signs.length() - 1);
                char sign = SIGNS.charAt(upTo(SIGNS.length() - 1));
                if (upTo(1) == 0) {
                    signs.insert(place, sign);
                } else {
                    signs.setCharAt(place, sign);
                }
            }
            for (char sign : signs.toString().toCharArray()) {
                call("type", sign);
                call("fault");
            }
            call("add");
            call("clear");
        }
    }

    private int wild() {
        return upTo(1) == 0 ? WILD[upTo(WILD.length - 1)] : upTo(20) - 2;
    }

    private Object wildFor(Class<?> type) {
        if (type == boolean.class) {
            return upTo(1) == 0;
        }
        if (type == char.class) {
            return upTo(3) == 0 ? (char) upTo(65535) : (SIGNS + "mNM<>ga").charAt(upTo(SIGNS.length() + 6));
        }
        return wild();
    }

    // Any call in any order with any values: what is no answer of the document would differ from the Reference's.
    private void runWild(int runs) {
        Method[] methods = Schedulary.class.getDeclaredMethods();
        List<Method> face = new ArrayList<>();
        for (Method method : methods) {
            if (java.lang.reflect.Modifier.isPublic(method.getModifiers())) {
                face.add(method);
            }
        }
        face.sort((a, b) -> a.getName().compareTo(b.getName()));
        for (int run = 0; run < runs; run++) {
            start();
            for (int number = 0; number < 150; number++) {
                if (upTo(9) == 0) {
                    call("clear");
                    typed(statement(3));
                    call("add");
                    continue;
                }
                Method method = face.get(upTo(face.size() - 1));
                Class<?>[] types = method.getParameterTypes();
                Object[] values = new Object[types.length];
                for (int value = 0; value < values.length; value++) {
                    values[value] = wildFor(types[value]);
                }
                call(method.getName(), values);
            }
        }
    }

    public static void main(String[] args) {
        int times = args.length > 0 ? Integer.parseInt(args[0]) : 1;
        RandomTest test = new RandomTest(args.length > 1 ? Long.parseLong(args[1]) : 20261119L);
        test.runTexts(3000 * times);
        test.runProcesses(1000 * times);
        test.runWild(300 * times);
        test.runGreat();
        test.runPrograms(400 * times, 5);
        test.runPrograms(60 * times, 12);
        test.checks.end("RandomTest");
    }
}
