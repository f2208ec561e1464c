import java.io.DataInputStream;
import java.io.IOException;
import java.io.InputStream;
import java.util.ArrayList;
import java.util.List;
import java.util.Set;

/** What of the library the compiled class calls: nothing but what rules 4 and 6 of LANGUAGE.md list and it needs. */
public final class LibraryTest {
    private static final Set<String> ALLOWED = Set.of("java/lang/Object.<init>()V", "java/lang/String.indexOf(I)I",
            "java/lang/String.charAt(I)C", "java/lang/Math.max(II)I", "java/lang/Math.min(II)I");
    private static final Set<String> EXCEPTIONS = Set.of("java/lang/IllegalStateException",
            "java/lang/IllegalArgumentException", "java/lang/IndexOutOfBoundsException",
            "java/lang/ArithmeticException", "java/lang/UnsupportedOperationException",
            "java/util/NoSuchElementException");

    private static final int TEXT = 1;
    private static final int LONG = 5;
    private static final int DOUBLE = 6;
    private static final int CLASS = 7;
    private static final int METHOD = 10;
    private static final int INTERFACE_METHOD = 11;
    private static final int NAME_AND_TYPE = 12;

    // Of each constant of a class file its tag, and its text or the numbers of one or two others.
    private static final class Constants {
        private final int[] tags;
        private final int[] firsts;
        private final int[] seconds;
        private final String[] texts;

        private Constants(DataInputStream in) throws IOException {
            in.readLong();
            int count = in.readUnsignedShort();
            tags = new int[count];
            firsts = new int[count];
            seconds = new int[count];
            texts = new String[count];
            for (int number = 1; number < count; number++) {
                read(in, number);
                if (tags[number] == LONG || tags[number] == DOUBLE) {
                    number++;
                }
            }
        }

        private void read(DataInputStream in, int number) throws IOException {
            tags[number] = in.readUnsignedByte();
            switch (tags[number]) {
                case TEXT:
                    texts[number] = in.readUTF();
                    break;
                case LONG:
                case DOUBLE:
                    in.readLong();
                    break;
                case CLASS:
                case 8:
                    firsts[number] = in.readUnsignedShort();
                    break;
                case 3:
                case 4:
                case 9:
                case METHOD:
                case INTERFACE_METHOD:
                case NAME_AND_TYPE:
                    firsts[number] = in.readUnsignedShort();
                    seconds[number] = in.readUnsignedShort();
                    break;
                default:
                    throw new AssertionError("a constant of a lambda or of joined texts: " + tags[number]);
            }
        }

        private List<String> methods() {
            List<String> all = new ArrayList<>();
            for (int number = 1; number < tags.length; number++) {
                if (tags[number] == METHOD || tags[number] == INTERFACE_METHOD) {
                    int named = seconds[number];
                    String owner = texts[firsts[firsts[number]]];
                    all.add(owner + "." + texts[firsts[named]] + texts[seconds[named]]);
                }
            }
            return all;
        }
    }

    private static boolean isAllowed(String method) {
        int end = method.indexOf('.');
        String owner = method.substring(0, end);
        String call = method.substring(end + 1);
        boolean isOwn = owner.equals("Schedulary") || owner.startsWith("Schedulary$");
        boolean isThrown = EXCEPTIONS.contains(owner) && call.equals("<init>(Ljava/lang/String;)V");
        return isOwn || isThrown || ALLOWED.contains(method);
    }

    public static void main(String[] args) throws IOException {
        Checks checks = new Checks();
        List<Class<?>> classes = new ArrayList<>(List.of(Schedulary.class.getDeclaredClasses()));
        classes.add(Schedulary.class);
        int found = 0;
        for (Class<?> one : classes) {
            try (InputStream file = one.getResourceAsStream("/" + one.getName() + ".class")) {
                for (String method : new Constants(new DataInputStream(file)).methods()) {
                    checks.holds(one.getName() + " calls " + method, isAllowed(method));
                    found++;
                }
            }
        }
        checks.holds("calls are found", found > 100);
        checks.end("LibraryTest");
    }
}
