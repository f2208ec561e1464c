import java.io.IOException;
import java.lang.management.ManagementFactory;
import java.nio.file.Files;
import java.nio.file.Path;
import java.util.List;
import java.util.regex.Matcher;
import java.util.regex.Pattern;

/** What of LANGUAGE.md can be seen in the text of the class, and that its calls make nothing that is kept. */
public final class RulesTest {
    private static final Checks CHECKS = new Checks();
    private static final int LONGEST_METHOD = 60;
    private static final long MOST_BYTES_OF_AN_OBJECT = 400_000;
    private static final long MOST_BYTES_OF_CALLS = 100_000;
    private static final String[] FORBIDDEN = {"\\bfinally\\b", "\\bcatch\\b", "\\btry\\b", "\\bsynchronized\\b",
        "\\bassert\\b", "->", "::", "\\bvar\\b", "\\brecord\\b", "Exact\\b", "System\\.", "Object\\b", "\\bstatic \\{",
        "\\bprotected\\b", "\\bpackage\\b", "\\bequals\\(", "hashCode", "toString", "\\bgoto\\b", "\\bvolatile\\b",
        "[^\\x00-\\x7f]", "import (?!java\\.util\\.NoSuchElementException;)", "\" +\\+", "\\+ +\"", "\\bwhile\\b"};

    private static void text(List<String> lines) {
        for (int line = 0; line < lines.size(); line++) {
            for (String forbidden : FORBIDDEN) {
                Matcher matcher = Pattern.compile(forbidden).matcher(lines.get(line));
                CHECKS.same("line " + (line + 1) + " has " + forbidden, matcher.find(), false);
            }
        }
    }

    // A method begins with a line that ends with a brace, and ends with one of the same depth.
    private static void methods(List<String> lines) {
        Pattern start = Pattern.compile("( +)(?:public |private )(?:static )?[A-Za-z\\[\\]]+ \\w+\\(.*");
        int found = 0;
        for (int line = 0; line < lines.size(); line++) {
            Matcher matcher = start.matcher(lines.get(line));
            if (!matcher.matches() || lines.get(line).endsWith(";")) {
                continue;
            }
            int end = line;
            while (!lines.get(end).equals(matcher.group(1) + "}")) {
                end++;
            }
            found++;
            CHECKS.holds("the method in line " + (line + 1) + " is short", end - line + 1 <= LONGEST_METHOD);
        }
        CHECKS.holds("methods are found", found > 100);
    }

    private static long bytes() {
        com.sun.management.ThreadMXBean threads =
                (com.sun.management.ThreadMXBean) ManagementFactory.getThreadMXBean();
        return threads.getThreadAllocatedBytes(Thread.currentThread().getId());
    }

    private static void room() {
        new Schedulary().isSound();
        long before = bytes();
        Schedulary x = new Schedulary();
        CHECKS.holds("an object is small", bytes() - before < MOST_BYTES_OF_AN_OBJECT);
        for (int statement = 0; statement < 12; statement++) {
            Checks.typed(x, "M[i+" + statement % 10 + "]=M[" + statement + "]*N[i]");
            x.add();
        }
        x.unroll(2);
        long sum = 0;
        before = bytes();
        for (int round = 0; round < 30; round++) {
            x.setCycles('M', 1 + round % 5);
            sum += x.checksum() + x.circuitOutputs() + x.leastDepth() + x.outputs();
            x.setBits(1 + round % 16);
            CHECKS.holds("isSound", x.isSound());
        }
        long made = bytes() - before;
        CHECKS.holds("calls make little, not " + made + " bytes, with a sum of " + sum, made < MOST_BYTES_OF_CALLS);
    }

    public static void main(String[] args) throws IOException {
        List<String> lines = Files.readAllLines(Path.of("src/main/java/Schedulary.java"));
        text(lines);
        methods(lines);
        room();
        CHECKS.end("RulesTest");
    }
}
