import java.util.ArrayList;
import java.util.Arrays;
import java.util.List;
import java.util.Map;
import java.util.NoSuchElementException;
import java.util.TreeMap;
import java.util.regex.Matcher;
import java.util.regex.Pattern;

/** The document once more, read word by word and slow, so that the class can be held against it. */
public final class Reference {
    private static final String KINDS = "amgMN<>";
    private static final String PLACE = "[MN]\\[(?:i(?:[+-][0-9])?|[0-9]{1,2})\\]";
    private static final String OPERAND = "(?:[a-h]|[0-9]{1,2}|i|" + PLACE + "|<)";
    private static final Pattern STATEMENT =
            Pattern.compile("([a-h]|" + PLACE + "|>)=(" + OPERAND + ")(?:([-+*&|^l])(" + OPERAND + "))?");

    private static final class Node {
        char kind;
        int statement;
        int copy;
        int turnOfProgram;
        String role;
        String operand = "";
        String operand2 = "";
        Node from;
        Node from2;
        String target = "";
        char operation;
        int number;

        boolean uses(char register) {
            boolean isFirst = from == null && operand.equals("" + register);
            return isFirst || role.equals("op") && from2 == null && operand2.equals("" + register);
        }

        boolean makes(char register) {
            return target.equals("" + register);
        }

        String index() {
            String place = role.equals("write") ? target : operand;
            return place.substring(2, place.length() - 1);
        }

        boolean isMemory() {
            return kind == 'M' || kind == 'N';
        }
    }

    private record Edge(int from, int to, int distance, int weight) {
    }

    private final StringBuilder buffer = new StringBuilder();
    private final List<String> statements = new ArrayList<>();
    private int turns = 8;
    private int bits = 8;
    private int factor = 1;
    private final List<Integer> inputs = new ArrayList<>();
    private final int[][] told = new int[2][16];
    private final int[] units = {1, 1, 1, 1, 1, 1, 1};
    private final int[] cycles = {1, 1, 1, 1, 1, 1, 1};
    private final List<List<int[]>> actions =
            List.of(new ArrayList<>(), new ArrayList<>(), new ArrayList<>(), new ArrayList<>());
    private final int[] depths = {1, 1, 1, 1};

    // What comes of a run, of the program or of the circuit.
    private static final class Run {
        int[] registers = new int[8];
        int[][] memories = new int[2][16];
        List<Integer> outputs = new ArrayList<>();
        int taken;
    }

    // Kept until something changes.
    private List<Node> nodes;
    private List<Edge> edges;
    private int[] soonest;
    private int[] latest;
    private int[] lists;
    private int rings;
    private int interval;
    private int[] places;
    private Run program;
    private Run circuit;

    private void forget() {
        nodes = null;
        edges = null;
        soonest = null;
        latest = null;
        lists = null;
        rings = 0;
        interval = 0;
        places = null;
        program = null;
        circuit = null;
    }

    public Reference() {
        forget();
    }

    public int type(char sign) {
        if (!"0123456789abcdefghilMN=[]+-*&|^<>".contains("" + sign)) {
            throw new IllegalArgumentException();
        }
        if (buffer.length() == 24) {
            throw new IllegalStateException();
        }
        buffer.append(sign);
        return buffer.length();
    }

    public int clear() {
        int before = buffer.length();
        buffer.setLength(0);
        return before;
    }

    public int fault() {
        if (STATEMENT.matcher(buffer).matches()) {
            return -1;
        }
        for (int place = 0; place < buffer.length(); place++) {
            Matcher prefix = STATEMENT.matcher(buffer.substring(0, place + 1));
            if (!prefix.matches() && !prefix.hitEnd()) {
                return place;
            }
        }
        return buffer.length();
    }

    public int add() {
        if (fault() != -1) {
            throw new IllegalArgumentException();
        }
        if (statements.size() == 12 || (statements.size() + 1) * factor > 24) {
            throw new IllegalStateException();
        }
        statements.add(buffer.toString());
        clear();
        forget();
        return statements.size();
    }

    public int replace(int statement) {
        if (statement < 0 || statement >= statements.size()) {
            throw new IndexOutOfBoundsException();
        }
        if (fault() != -1) {
            throw new IllegalArgumentException();
        }
        statements.set(statement, buffer.toString());
        clear();
        forget();
        return nodes();
    }

    public int setTurns(int to) {
        if (to < 1 || to > 16) {
            throw new IllegalArgumentException();
        }
        if (to % factor != 0) {
            throw new UnsupportedOperationException();
        }
        int before = turns;
        turns = to;
        forget();
        return before;
    }

    public int setBits(int to) {
        if (to < 1 || to > 16) {
            throw new IllegalArgumentException();
        }
        int before = bits;
        bits = to;
        forget();
        return before;
    }

    public int unroll(int to) {
        if (to < 1 || to > 4) {
            throw new IllegalArgumentException();
        }
        if (turns % to != 0) {
            throw new UnsupportedOperationException();
        }
        if (statements.size() * to > 24) {
            throw new IllegalStateException();
        }
        factor = to;
        forget();
        return nodes();
    }

    public int input(int value) {
        if (value < 0 || value > 65535) {
            throw new IllegalArgumentException();
        }
        if (inputs.size() == 32) {
            throw new IllegalStateException();
        }
        inputs.add(value);
        forget();
        return inputs.size();
    }

    private static int memoryOf(char memory, int place) {
        if (memory != 'M' && memory != 'N' || place < 0 || place > 15) {
            throw new IllegalArgumentException();
        }
        return memory - 'M';
    }

    public int setMemory(char memory, int place, int value) {
        int number = memoryOf(memory, place);
        if (value < 0 || value > 65535) {
            throw new IllegalArgumentException();
        }
        int before = told[number][place];
        told[number][place] = value;
        forget();
        return before;
    }

    private static int kindNumber(char kind) {
        if (!KINDS.contains("" + kind)) {
            throw new IllegalArgumentException();
        }
        return KINDS.indexOf(kind);
    }

    public int setUnits(char kind, int to) {
        int number = kindNumber(kind);
        if (to < 1 || to > 4) {
            throw new IllegalArgumentException();
        }
        if ((kind == '<' || kind == '>') && to > 1) {
            throw new UnsupportedOperationException();
        }
        int before = units[number];
        units[number] = to;
        forget();
        return before;
    }

    public int setCycles(char kind, int to) {
        int number = kindNumber(kind);
        if (to < 1 || to > 5) {
            throw new IllegalArgumentException();
        }
        int before = cycles[number];
        cycles[number] = to;
        forget();
        return before;
    }

    // The program.

    private int cut(long value) {
        return (int) Math.floorMod(value, 1L << bits);
    }

    private static int placeOf(String index, int i) {
        if (index.charAt(0) != 'i') {
            return Integer.parseInt(index);
        }
        return index.length() == 1 ? i : i + Integer.parseInt(index.substring(1));
    }

    private Run begin() {
        Run run = new Run();
        for (int memory = 0; memory < 2; memory++) {
            for (int place = 0; place < 16; place++) {
                run.memories[memory][place] = cut(told[memory][place]);
            }
        }
        return run;
    }

    private int read(Run run, String operand, int i) {
        char sign = operand.charAt(0);
        if (sign >= 'a' && sign <= 'h') {
            return run.registers[sign - 'a'];
        }
        if (sign == 'i') {
            return cut(i);
        }
        if (sign == '<') {
            return run.taken < inputs.size() ? cut(inputs.get(run.taken++)) : 0;
        }
        if (sign == 'M' || sign == 'N') {
            int place = placeOf(operand.substring(2, operand.length() - 1), i);
            return place < 0 || place > 15 ? 0 : run.memories[sign - 'M'][place];
        }
        return cut(Integer.parseInt(operand));
    }

    private int operate(char operation, long x, long y) {
        switch (operation) {
            case '+':
                return cut(x + y);
            case '-':
                return cut(x - y);
            case '*':
                return cut(x * y);
            case '&':
                return cut(x & y);
            case '|':
                return cut(x | y);
            case '^':
                return cut(x ^ y);
            default:
                return x < y ? 1 : 0;
        }
    }

    private void write(Run run, String target, int i, int value) {
        char sign = target.charAt(0);
        if (sign == '>') {
            run.outputs.add(value);
        } else if (sign == 'M' || sign == 'N') {
            int place = placeOf(target.substring(2, target.length() - 1), i);
            if (place >= 0 && place <= 15) {
                run.memories[sign - 'M'][place] = value;
            }
        } else {
            run.registers[sign - 'a'] = value;
        }
    }

    private static Matcher parts(String statement) {
        Matcher parts = STATEMENT.matcher(statement);
        if (!parts.matches()) {
            throw new AssertionError(statement);
        }
        return parts;
    }

    private Run program() {
        if (program != null) {
            return program;
        }
        Run run = begin();
        for (int i = 0; i < turns; i++) {
            for (String statement : statements) {
                Matcher parts = parts(statement);
                int value = read(run, parts.group(2), i);
                if (parts.group(3) != null) {
                    value = operate(parts.group(3).charAt(0), value, read(run, parts.group(4), i));
                }
                write(run, parts.group(1), i, value);
            }
        }
        program = run;
        return run;
    }

    public int outputs() {
        return program().outputs.size();
    }

    public int output(int index) {
        return outputOf(program(), index);
    }

    private static int outputOf(Run run, int index) {
        if (index < 0 || index >= run.outputs.size()) {
            throw new IndexOutOfBoundsException();
        }
        return run.outputs.get(index);
    }

    public int memoryAt(char memory, int place) {
        return program().memories[memoryOf(memory, place)][place];
    }

    public int register(char register) {
        if (register < 'a' || register > 'h') {
            throw new IllegalArgumentException();
        }
        return program().registers[register - 'a'];
    }

    public int taken() {
        return program().taken;
    }

    // Nodes.

    private Node node(List<Node> all, char kind, int statement, int copy, String role) {
        Node node = new Node();
        node.kind = kind;
        node.statement = statement;
        node.copy = copy;
        node.role = role;
        node.number = all.size();
        all.add(node);
        return node;
    }

    private List<Node> all() {
        if (nodes != null) {
            return nodes;
        }
        List<Node> all = new ArrayList<>();
        for (int statement = 0; statement < statements.size() * factor; statement++) {
            int copy = statement / statements.size();
            Matcher parts = parts(statements.get(statement % statements.size()));
            String target = parts.group(1);
            String one = parts.group(2);
            String two = parts.group(4) == null ? "" : parts.group(4);
            boolean isOperating = parts.group(3) != null;
            boolean isToRegister = target.matches("[a-h]");
            Node reading = null;
            Node reading2 = null;
            if (one.matches("[MN<].*")) {
                reading = node(all, one.charAt(0), statement, copy, "read");
                reading.operand = one;
            }
            if (two.matches("[MN<].*")) {
                reading2 = node(all, two.charAt(0), statement, copy, "read");
                reading2.operand = two;
            }
            Node giver = reading;
            if (isOperating) {
                char sign = parts.group(3).charAt(0);
                char kind = "+-l".indexOf(sign) >= 0 ? 'a' : sign == '*' ? 'm' : 'g';
                giver = node(all, kind, statement, copy, "op");
                giver.operation = sign;
                giver.operand = one;
                giver.operand2 = two;
                giver.from = reading;
                giver.from2 = reading2;
            } else if (isToRegister && reading == null) {
                giver = node(all, 'g', statement, copy, "move");
                giver.operand = one;
            }
            if (isToRegister) {
                giver.target = target;
            } else {
                Node writing = node(all, target.charAt(0), statement, copy, "write");
                writing.from = giver;
                writing.operand = one;
                writing.target = target;
            }
        }
        nodes = all;
        return all;
    }

    private int cyclesOf(int node) {
        return cycles[KINDS.indexOf(all().get(node).kind)];
    }

    private int unitsOf(int node) {
        return units[KINDS.indexOf(all().get(node).kind)];
    }

    private Node checked(int node) {
        if (node < 0 || node >= all().size()) {
            throw new IndexOutOfBoundsException();
        }
        return all().get(node);
    }

    public int nodes() {
        return all().size();
    }

    public char kindOf(int node) {
        return checked(node).kind;
    }

    public int statementOf(int node) {
        return checked(node).statement;
    }

    // Edges.

    private List<Edge> joined() {
        if (edges != null) {
            return edges;
        }
        Map<List<Integer>, Integer> found = new TreeMap<>((x, y) -> Arrays.compare(
                x.stream().mapToInt(Integer::intValue).toArray(), y.stream().mapToInt(Integer::intValue).toArray()));
        int count = nodes();
        for (Node node : all()) {
            for (Node giver : new Node[] {node.from, node.from2}) {
                if (giver != null) {
                    found.merge(List.of(giver.number, node.number, 0), cyclesOf(giver.number), Math::max);
                }
            }
            for (char register = 'a'; register <= 'h'; register++) {
                joinRegister(found, node.number, register);
            }
            for (Node other : all()) {
                if (other != node && other.kind == node.kind && node.isMemory()) {
                    joinMemory(found, node, other);
                }
            }
            if (node.kind == '<' || node.kind == '>') {
                for (int at = node.number + 1; at < node.number + count; at++) {
                    if (all().get(at % count).kind == node.kind) {
                        found.merge(List.of(node.number, at % count, at / count), 1, Math::max);
                        break;
                    }
                }
            }
        }
        List<Edge> list = new ArrayList<>();
        found.forEach((key, weight) -> list.add(new Edge(key.get(0), key.get(1), key.get(2), weight)));
        edges = list;
        return list;
    }

    // Nodes stand in a row of three turns; those of the one in the middle look ahead and behind.
    private void joinRegister(Map<List<Integer>, Integer> found, int number, char register) {
        int count = nodes();
        Node node = all().get(number);
        if (node.uses(register)) {
            for (int at = count + number - 1; at >= number && at >= 0; at--) {
                if (all().get(at % count).makes(register)) {
                    found.merge(List.of(at % count, number, 1 - at / count), cyclesOf(at % count), Math::max);
                    break;
                }
            }
        }
        if (!node.uses(register) && !node.makes(register)) {
            return;
        }
        for (int at = number + 1; at < 2 * count; at++) {
            int next = at % count;
            if (next == number || !all().get(next).makes(register)) {
                continue;
            }
            if (node.uses(register)) {
                found.merge(List.of(number, next, at / count), 1 - cyclesOf(next), Math::max);
            }
            if (node.makes(register)) {
                found.merge(List.of(number, next, at / count), 1 + cyclesOf(number) - cyclesOf(next), Math::max);
            }
            return;
        }
    }

    private void joinMemory(Map<List<Integer>, Integer> found, Node first, Node second) {
        boolean isFirstWriting = first.role.equals("write");
        boolean isSecondWriting = second.role.equals("write");
        if (!isFirstWriting && !isSecondWriting) {
            return;
        }
        int weight = 1;
        if (!isSecondWriting) {
            weight = cyclesOf(first.number);
        } else if (!isFirstWriting) {
            weight = 1 - cyclesOf(second.number);
        }
        boolean isBehind = second.number > first.number;
        boolean isFirstTurning = first.index().startsWith("i");
        boolean isSecondTurning = second.index().startsWith("i");
        if (isFirstTurning && isSecondTurning) {
            for (int later = isBehind ? 0 : 1; later < 50; later++) {
                int place = placeOf(first.index(), first.copy);
                if (place == placeOf(second.index(), factor * later + second.copy)) {
                    found.merge(List.of(first.number, second.number, later), weight, Math::max);
                    return;
                }
            }
        } else if (isFirstTurning != isSecondTurning
                || placeOf(first.index(), 0) == placeOf(second.index(), 0)) {
            found.merge(List.of(first.number, second.number, isBehind ? 0 : 1), weight, Math::max);
        }
    }

    public int edges() {
        return joined().size();
    }

    public int weight(int from, int to, int distance) {
        checked(from);
        checked(to);
        for (Edge edge : joined()) {
            if (edge.from == from && edge.to == to && edge.distance == distance) {
                return edge.weight;
            }
        }
        throw new NoSuchElementException();
    }

    // Steps.

    private int end(int[] begins) {
        int end = 0;
        for (int node = 0; node < nodes(); node++) {
            end = Math.max(end, begins[node] + cyclesOf(node));
        }
        return end;
    }

    private int[] soonest() {
        if (soonest != null) {
            return soonest;
        }
        int[] steps = new int[nodes()];
        for (int round = 0; round <= nodes(); round++) {
            for (Edge edge : joined()) {
                if (edge.distance == 0) {
                    steps[edge.to] = Math.max(steps[edge.to], steps[edge.from] + edge.weight);
                }
            }
        }
        soonest = steps;
        return steps;
    }

    private int[] latest() {
        if (latest != null) {
            return latest;
        }
        int[] steps = new int[nodes()];
        int end = end(soonest());
        for (int node = 0; node < nodes(); node++) {
            steps[node] = end - cyclesOf(node);
        }
        for (int round = 0; round <= nodes(); round++) {
            for (Edge edge : joined()) {
                if (edge.distance == 0) {
                    steps[edge.from] = Math.min(steps[edge.from], steps[edge.to] - edge.weight);
                }
            }
        }
        latest = steps;
        return steps;
    }

    private int[] lists() {
        if (lists != null) {
            return lists;
        }
        int[] steps = new int[nodes()];
        Arrays.fill(steps, -1);
        int left = nodes();
        for (int cycle = 0; left > 0; cycle++) {
            while (true) {
                int chosen = -1;
                for (int node = 0; node < nodes(); node++) {
                    if (steps[node] < 0 && canBegin(steps, node, cycle) && isUnitFree(steps, node, cycle)
                            && (chosen < 0 || latest()[node] < latest()[chosen])) {
                        chosen = node;
                    }
                }
                if (chosen < 0) {
                    break;
                }
                steps[chosen] = cycle;
                left--;
            }
        }
        lists = steps;
        return steps;
    }

    private boolean canBegin(int[] steps, int node, int cycle) {
        for (Edge edge : joined()) {
            if (edge.to == node && edge.distance == 0
                    && (steps[edge.from] < 0 || steps[edge.from] + edge.weight > cycle)) {
                return false;
            }
        }
        return true;
    }

    private boolean isUnitFree(int[] steps, int node, int cycle) {
        int begun = 0;
        for (int other = 0; other < nodes(); other++) {
            if (steps[other] == cycle && kindOf(other) == kindOf(node)) {
                begun++;
            }
        }
        return begun < unitsOf(node);
    }

    public int soon(int node) {
        checked(node);
        return soonest()[node];
    }

    public int late(int node) {
        checked(node);
        return latest()[node];
    }

    public int step(int node) {
        checked(node);
        return lists()[node];
    }

    public int length() {
        return end(lists());
    }

    public int inStep(int step) {
        return (int) Arrays.stream(lists()).filter(s -> s == step).count();
    }

    public int waiting() {
        int[] waits = new int[length() + 1];
        for (Node maker : all()) {
            if (!maker.target.matches("[a-h]")) {
                continue;
            }
            char register = maker.target.charAt(0);
            int last = -1;
            int count = nodes();
            for (int at = maker.number + 1; at < maker.number + 1 + count; at++) {
                Node node = all().get(at % count);
                if (node.uses(register)) {
                    last = Math.max(last, at < count ? lists()[at] : length() - 1);
                }
                if (node.makes(register)) {
                    break;
                }
            }
            for (int cycle = lists()[maker.number] + cyclesOf(maker.number); cycle <= last; cycle++) {
                waits[cycle]++;
            }
        }
        return Arrays.stream(waits).max().orElse(0);
    }

    // Interval.

    private boolean isTooHeavy(int tried) {
        int count = nodes();
        long[][] ways = new long[count][count];
        for (long[] row : ways) {
            Arrays.fill(row, Long.MIN_VALUE / 4);
        }
        for (Edge edge : joined()) {
            long weight = edge.weight - (long) tried * edge.distance;
            ways[edge.from][edge.to] = Math.max(ways[edge.from][edge.to], weight);
        }
        for (int by = 0; by < count; by++) {
            for (int from = 0; from < count; from++) {
                for (int to = 0; to < count; to++) {
                    long way = Math.min(ways[from][by] + ways[by][to], 1_000_000);
                    ways[from][to] = Math.max(ways[from][to], way);
                }
            }
        }
        for (int node = 0; node < count; node++) {
            if (ways[node][node] > 0) {
                return true;
            }
        }
        return false;
    }

    public int byRings() {
        if (rings == 0) {
            rings = 1;
            while (isTooHeavy(rings)) {
                rings++;
            }
        }
        return rings;
    }

    private int ofKind(char kind) {
        return (int) all().stream().filter(n -> n.kind == kind).count();
    }

    private int byUnitsOf(char kind) {
        return (int) Math.ceil((double) ofKind(kind) / units[KINDS.indexOf(kind)]);
    }

    public int byUnits() {
        int least = 1;
        for (char kind : KINDS.toCharArray()) {
            least = Math.max(least, byUnitsOf(kind));
        }
        return least;
    }

    public int interval() {
        if (interval == 0) {
            int tried = Math.max(byRings(), byUnits());
            int[] steps = placed(tried);
            while (steps == null) {
                tried++;
                steps = placed(tried);
            }
            interval = tried;
            places = steps;
        }
        return interval;
    }

    private int[] placed(int tried) {
        int[] steps = new int[nodes()];
        for (int node = 0; node < nodes(); node++) {
            int first = 0;
            while (!isKept(steps, node, first, tried, true)) {
                first++;
            }
            int step = first;
            while (step < first + tried
                    && !(isKept(steps, node, step, tried, false) && isFree(steps, node, step, tried))) {
                step++;
            }
            if (step == first + tried) {
                return null;
            }
            steps[node] = step;
        }
        return steps;
    }

    private boolean isKept(int[] steps, int node, int step, int tried, boolean isToAlone) {
        for (Edge edge : joined()) {
            if (edge.to == node && edge.from < node
                    && step + tried * edge.distance < steps[edge.from] + edge.weight) {
                return false;
            }
            if (!isToAlone && edge.from == node && edge.to < node
                    && steps[edge.to] + tried * edge.distance < step + edge.weight) {
                return false;
            }
        }
        return true;
    }

    private boolean isFree(int[] steps, int node, int step, int tried) {
        int begun = 0;
        for (int other = 0; other < node; other++) {
            if (kindOf(other) == kindOf(node) && steps[other] % tried == step % tried) {
                begun++;
            }
        }
        return begun < unitsOf(node);
    }

    public char binds() {
        if (nodes() == 0 || interval() > byRings() && interval() > byUnits()) {
            return '-';
        }
        if (interval() == byRings() && byUnits() < interval()) {
            return 'r';
        }
        for (char kind : KINDS.toCharArray()) {
            if (byUnitsOf(kind) == interval()) {
                return kind;
            }
        }
        throw new AssertionError("nothing binds");
    }

    public int place(int node) {
        checked(node);
        interval();
        return places[node];
    }

    public int cycles() {
        interval();
        return nodes() == 0 ? 0 : end(places) + interval * (turns / factor - 1);
    }

    public int oneByOne() {
        int sum = 0;
        for (int node = 0; node < nodes(); node++) {
            sum += cyclesOf(node);
        }
        return sum * (turns / factor);
    }

    // Events are sorted by their cycles, writing ahead of reading.
    private Run circuit() {
        if (circuit != null) {
            return circuit;
        }
        interval();
        Run run = begin();
        List<int[]> events = new ArrayList<>();
        for (int turn = 0; turn < turns / factor; turn++) {
            for (int node = 0; node < nodes(); node++) {
                int begin = places[node] + interval * turn;
                events.add(new int[] {begin, 1, node, turn});
                events.add(new int[] {begin + cyclesOf(node), 0, node, turn});
            }
        }
        events.sort((x, y) -> x[0] != y[0] ? x[0] - y[0] : x[1] - y[1]);
        Integer[][] given = new Integer[nodes()][turns];
        Integer[][] underway = new Integer[nodes()][turns];
        for (int[] event : events) {
            Node node = all().get(event[2]);
            int turn = event[3];
            int i = factor * turn + node.copy;
            if (event[1] == 0) {
                given[node.number][turn] = underway[node.number][turn];
                if (!node.target.isEmpty()) {
                    write(run, node.target, i, given[node.number][turn]);
                }
                continue;
            }
            int value = node.from == null ? read(run, node.operand, i) : given[node.from.number][turn];
            if (node.role.equals("op")) {
                int second = node.from2 == null ? read(run, node.operand2, i) : given[node.from2.number][turn];
                value = operate(node.operation, value, second);
            }
            underway[node.number][turn] = value;
        }
        circuit = run;
        return run;
    }

    public int circuitOutputs() {
        return circuit().outputs.size();
    }

    public int circuitOutput(int index) {
        return outputOf(circuit(), index);
    }

    public int circuitMemory(char memory, int place) {
        return circuit().memories[memoryOf(memory, place)][place];
    }

    public boolean isSame() {
        return program().outputs.equals(circuit().outputs)
                && Arrays.equals(program().registers, circuit().registers)
                && Arrays.deepEquals(program().memories, circuit().memories);
    }

    // Processes.

    public int action(int process, int channel, boolean isPut) {
        if (process < 0 || process > 3 || channel < 0 || channel > 3) {
            throw new IllegalArgumentException();
        }
        if (actions.get(process).size() == 16) {
            throw new IllegalStateException();
        }
        actions.get(process).add(new int[] {channel, isPut ? 1 : 0});
        return actions.get(process).size();
    }

    public int setDepth(int channel, int depth) {
        if (channel < 0 || channel > 3 || depth < 1 || depth > 16) {
            throw new IllegalArgumentException();
        }
        int before = depths[channel];
        depths[channel] = depth;
        return before;
    }

    private int[] positions(int[] limits) {
        int[] at = new int[4];
        int[] held = new int[4];
        int stuck = 0;
        for (int process = 0; stuck < 4; process = (process + 1) % 4) {
            int before = at[process];
            while (at[process] < actions.get(process).size()) {
                int[] action = actions.get(process).get(at[process]);
                if (action[1] == 1 ? held[action[0]] == limits[action[0]] : held[action[0]] == 0) {
                    break;
                }
                held[action[0]] += action[1] == 1 ? 1 : -1;
                at[process]++;
            }
            stuck = at[process] == before ? stuck + 1 : 0;
        }
        return at;
    }

    public int done() {
        return Arrays.stream(positions(depths)).sum();
    }

    public int waitsFor(int process) {
        if (process < 0 || process > 3) {
            throw new IllegalArgumentException();
        }
        int at = positions(depths)[process];
        return at == actions.get(process).size() ? -1 : actions.get(process).get(at)[0];
    }

    private int countActions() {
        return actions.stream().mapToInt(List::size).sum();
    }

    public boolean areLocked() {
        return done() < countActions();
    }

    public int leastDepth() {
        for (int depth = 1; depth <= 16; depth++) {
            if (Arrays.stream(positions(new int[] {depth, depth, depth, depth})).sum() == countActions()) {
                return depth;
            }
        }
        throw new NoSuchElementException();
    }

    // Figures.

    public long checksum() {
        long sum = 0;
        for (int node = 0; node < nodes(); node++) {
            sum = 31 * sum + step(node) + 7 * place(node);
        }
        return sum;
    }

    public float busyShare(char kind) {
        return (float) ofKind(kind) / (float) (units[kindNumber(kind)] * interval());
    }

    public double meanStep() {
        if (nodes() == 0) {
            throw new ArithmeticException();
        }
        return (double) Arrays.stream(lists()).sum() / (double) nodes();
    }

    public boolean isSound() {
        interval();
        for (Edge edge : joined()) {
            boolean isKept = edge.distance > 0 || lists()[edge.to] >= lists()[edge.from] + edge.weight;
            if (!isKept || places[edge.to] + interval * edge.distance < places[edge.from] + edge.weight) {
                return false;
            }
        }
        for (int node = 0; node < nodes(); node++) {
            if (latest()[node] < soonest()[node]) {
                return false;
            }
        }
        return areUnitsKept(lists(), 100_000) && areUnitsKept(places, interval) && isSame();
    }

    private boolean areUnitsKept(int[] steps, int modulo) {
        Map<String, Integer> begun = new TreeMap<>();
        for (int node = 0; node < nodes(); node++) {
            if (begun.merge(kindOf(node) + " " + steps[node] % modulo, 1, Integer::sum) > unitsOf(node)) {
                return false;
            }
        }
        return true;
    }
}
