import java.util.NoSuchElementException;

public final class Schedulary {
    private static final int NONE = -1;

    private static final int MOST_SIGNS = 24;
    private static final int MOST_STATEMENTS = 12;
    private static final int MOST_IN_BODY = 24;
    private static final int MOST_TURNS = 16;
    private static final int MOST_BITS = 16;
    private static final int MOST_FACTOR = 4;
    private static final int MOST_INPUTS = 32;
    private static final int MOST_OUTPUTS = MOST_STATEMENTS * MOST_TURNS;
    private static final int MOST_VALUE = 65535;
    private static final int MOST_UNITS = 4;
    private static final int MOST_CYCLES = 5;
    private static final int REGISTERS = 8;
    private static final int MEMORIES = 2;
    private static final int PLACES = 16;

    // Two nodes that read, one that operates and one that writes are the most that a statement has.
    private static final int MOST_NODES = MOST_IN_BODY * 4;
    // From one node: 71 to others of its memory, 24 to users of its register, and 5 more within the statement,
    // by channels and to makers of registers.
    private static final int MOST_EDGES_FROM = 100;
    // No two nodes meet at more turns ahead: indexes differ by 18, and copies by 3.
    private static final int MOST_DISTANCE = 21;
    // No length and no interval is more than the cycles of all nodes together.
    private static final int MOST_LENGTH = MOST_NODES * MOST_CYCLES + 1;

    private static final int PROCESSES = 4;
    private static final int CHANNELS = 4;
    private static final int MOST_ACTIONS = 16;
    private static final int MOST_DEPTH = 16;

    private static final String SIGNS = "0123456789abcdefghilMN=[]+-*&|^<>";
    private static final String OPERATIONS = "+-*&|^l";
    private static final String MEMORY_SIGNS = "MN";
    private static final char NO_SIGN = ' ';

    private static final String KINDS = "amgMN<>";
    private static final int KIND_COUNT = 7;
    private static final int ADDING = 0;
    private static final int MULTIPLYING = 1;
    private static final int MOVING = 2;

    // Forms of targets and operands; those from MEMORY on are the numbers of the kinds that read or write them.
    private static final int REGISTER = 0;
    private static final int NUMBER = 1;
    private static final int TURN = 2;
    private static final int MEMORY = 3;
    private static final int CHANNEL_IN = 5;
    private static final int CHANNEL_OUT = 6;

    // The parts of a statement.
    private static final int TARGET = 0;
    private static final int FIRST = 1;
    private static final int SECOND = 2;
    private static final int PARTS = 3;

    // What is made from the statements, each from those ahead of it.
    private static final int WITH_NOTHING = 0;
    private static final int WITH_NODES = 1;
    private static final int WITH_EDGES = 2;
    private static final int WITH_STEPS = 3;
    private static final int WITH_PACE = 4;
    private static final int WITH_CIRCUIT = 5;

    private final Text text;
    private final Program program;
    private final State result;
    private final Body body;
    private final Graph graph;
    private final Steps steps;
    private final Pace pace;
    private final Circuit circuit;
    private final Processes processes;
    private int made;
    private boolean isCarriedOut;

    public Schedulary() {
        text = new Text();
        program = new Program();
        result = new State();
        body = new Body();
        graph = new Graph();
        steps = new Steps();
        pace = new Pace();
        circuit = new Circuit();
        processes = new Processes();
        made = WITH_NOTHING;
        isCarriedOut = false;
    }

    // The program.

    public int type(char sign) throws IllegalArgumentException, IllegalStateException {
        if (SIGNS.indexOf(sign) < 0) {
            throw new IllegalArgumentException("no sign of a statement");
        }
        if (text.count >= MOST_SIGNS) {
            throw new IllegalStateException("the buffer is full");
        }
        text.append(sign);
        return text.count;
    }

    public int clear() {
        return text.empty();
    }

    public int fault() {
        return text.readInto(program.spare);
    }

    public int add() throws IllegalArgumentException, IllegalStateException {
        if (text.readInto(program.spare) != NONE) {
            throw new IllegalArgumentException("no statement");
        }
        int more = program.count + 1;
        if (more > MOST_STATEMENTS || more * program.factor > MOST_IN_BODY) {
            throw new IllegalStateException("too many statements");
        }
        program.count = more;
        program.useSpare(more - 1);
        text.empty();
        changeBody();
        return more;
    }

    public int replace(int statement) throws IndexOutOfBoundsException, IllegalArgumentException {
        if (statement < 0 || statement >= program.count) {
            throw new IndexOutOfBoundsException("no such statement");
        }
        if (text.readInto(program.spare) != NONE) {
            throw new IllegalArgumentException("no statement");
        }
        program.useSpare(statement);
        text.empty();
        changeBody();
        prepare(WITH_NODES);
        return body.count;
    }

    public int setTurns(int turns) throws IllegalArgumentException, UnsupportedOperationException {
        if (!isWithin(turns, 1, MOST_TURNS)) {
            throw new IllegalArgumentException("1 to 16 turns");
        }
        if (!isDivided(turns, program.factor)) {
            throw new UnsupportedOperationException("the factor does not divide the turns");
        }
        int before = program.turns;
        program.turns = turns;
        changeValues();
        return before;
    }

    public int setBits(int bits) throws IllegalArgumentException {
        if (!isWithin(bits, 1, MOST_BITS)) {
            throw new IllegalArgumentException("1 to 16 bits");
        }
        int before = program.bits;
        program.bits = bits;
        changeValues();
        return before;
    }

    public int unroll(int factor)
            throws IllegalArgumentException, UnsupportedOperationException, IllegalStateException {
        if (!isWithin(factor, 1, MOST_FACTOR)) {
            throw new IllegalArgumentException("factors are 1 to 4");
        }
        if (!isDivided(program.turns, factor)) {
            throw new UnsupportedOperationException("the factor does not divide the turns");
        }
        if (program.count * factor > MOST_IN_BODY) {
            throw new IllegalStateException("too many statements in a body");
        }
        program.factor = factor;
        changeBody();
        prepare(WITH_NODES);
        return body.count;
    }

    public int input(int value) throws IllegalArgumentException, IllegalStateException {
        if (!isWithin(value, 0, MOST_VALUE)) {
            throw new IllegalArgumentException("values are 0 to 65535");
        }
        if (program.inputCount >= MOST_INPUTS) {
            throw new IllegalStateException("too many inputs");
        }
        program.inputs[program.inputCount] = value;
        program.inputCount++;
        changeValues();
        return program.inputCount;
    }

    public int setMemory(char memory, int place, int value) throws IllegalArgumentException {
        if (!isPlace(memory, place) || !isWithin(value, 0, MOST_VALUE)) {
            throw new IllegalArgumentException("no such place or value");
        }
        int[] told = program.told[MEMORY_SIGNS.indexOf(memory)];
        int before = told[place];
        told[place] = value;
        changeValues();
        return before;
    }

    public int setUnits(char kind, int units) throws IllegalArgumentException, UnsupportedOperationException {
        int number = KINDS.indexOf(kind);
        if (number < 0 || !isWithin(units, 1, MOST_UNITS)) {
            throw new IllegalArgumentException("no such kind, or not 1 to 4 units");
        }
        if (number >= CHANNEL_IN && units > 1) {
            throw new UnsupportedOperationException("a channel has one unit");
        }
        int before = body.units[number];
        body.units[number] = units;
        made = Math.min(made, WITH_EDGES);
        return before;
    }

    public int setCycles(char kind, int cycles) throws IllegalArgumentException {
        int number = KINDS.indexOf(kind);
        if (number < 0 || !isWithin(cycles, 1, MOST_CYCLES)) {
            throw new IllegalArgumentException("no such kind, or not 1 to 5 cycles");
        }
        int before = body.cycles[number];
        body.cycles[number] = cycles;
        made = Math.min(made, WITH_NODES);
        return before;
    }

    // The program, done in its order.

    public int outputs() {
        carryOut();
        return result.outputCount;
    }

    public int output(int index) throws IndexOutOfBoundsException {
        carryOut();
        if (index < 0 || index >= result.outputCount) {
            throw new IndexOutOfBoundsException("no such value");
        }
        return result.outputs[index];
    }

    public int memoryAt(char memory, int place) throws IllegalArgumentException {
        if (!isPlace(memory, place)) {
            throw new IllegalArgumentException("no such place");
        }
        carryOut();
        return result.look(MEMORY_SIGNS.indexOf(memory), place);
    }

    public int register(char register) throws IllegalArgumentException {
        if (!isWithin(register, 'a', 'h')) {
            throw new IllegalArgumentException("no such register");
        }
        carryOut();
        return result.registers[register - 'a'];
    }

    public int taken() {
        carryOut();
        return result.takenCount;
    }

    // Nodes, edges and steps.

    public int nodes() {
        prepare(WITH_NODES);
        return body.count;
    }

    public char kindOf(int node) throws IndexOutOfBoundsException {
        prepare(WITH_NODES);
        checkNode(node);
        return KINDS.charAt(body.nodes[node].kind);
    }

    public int statementOf(int node) throws IndexOutOfBoundsException {
        prepare(WITH_NODES);
        checkNode(node);
        return body.nodes[node].statement;
    }

    public int edges() {
        prepare(WITH_EDGES);
        return graph.count;
    }

    public int weight(int from, int to, int distance) throws IndexOutOfBoundsException, NoSuchElementException {
        prepare(WITH_EDGES);
        checkNode(from);
        checkNode(to);
        int edge = graph.find(from, to, distance);
        if (edge == NONE) {
            throw new NoSuchElementException("no such edge");
        }
        return graph.weights[from][edge];
    }

    public int soon(int node) throws IndexOutOfBoundsException {
        prepare(WITH_STEPS);
        checkNode(node);
        return steps.soonest[node];
    }

    public int late(int node) throws IndexOutOfBoundsException {
        prepare(WITH_STEPS);
        checkNode(node);
        return steps.latest[node];
    }

    public int step(int node) throws IndexOutOfBoundsException {
        prepare(WITH_STEPS);
        checkNode(node);
        return steps.byLists[node];
    }

    public int length() {
        prepare(WITH_STEPS);
        return body.endOf(steps.byLists);
    }

    public int inStep(int step) {
        prepare(WITH_STEPS);
        return steps.countIn(body, step);
    }

    public int waiting() {
        prepare(WITH_STEPS);
        return steps.mostWaiting(body);
    }

    // Interval and circuit.

    public int byRings() {
        prepare(WITH_PACE);
        return pace.leastByRings;
    }

    public int byUnits() {
        prepare(WITH_PACE);
        return pace.leastByUnits;
    }

    public int interval() {
        prepare(WITH_PACE);
        return pace.interval;
    }

    public char binds() {
        prepare(WITH_PACE);
        return pace.findBinding(body);
    }

    public int place(int node) throws IndexOutOfBoundsException {
        prepare(WITH_PACE);
        checkNode(node);
        return pace.places[node];
    }

    public int cycles() {
        prepare(WITH_PACE);
        return pace.countCycles(body, program.bodyTurns());
    }

    public int oneByOne() {
        prepare(WITH_NODES);
        return body.sumOfCycles() * program.bodyTurns();
    }

    public int circuitOutputs() {
        prepare(WITH_CIRCUIT);
        return circuit.state.outputCount;
    }

    public int circuitOutput(int index) throws IndexOutOfBoundsException {
        prepare(WITH_CIRCUIT);
        if (index < 0 || index >= circuit.state.outputCount) {
            throw new IndexOutOfBoundsException("no such value");
        }
        return circuit.state.outputs[index];
    }

    public int circuitMemory(char memory, int place) throws IllegalArgumentException {
        if (!isPlace(memory, place)) {
            throw new IllegalArgumentException("no such place");
        }
        prepare(WITH_CIRCUIT);
        return circuit.state.look(MEMORY_SIGNS.indexOf(memory), place);
    }

    public boolean isSame() {
        carryOut();
        prepare(WITH_CIRCUIT);
        return result.isLike(circuit.state);
    }

    // Processes.

    public int action(int process, int channel, boolean isPut)
            throws IllegalArgumentException, IllegalStateException {
        if (!isWithin(process, 0, PROCESSES - 1) || !isWithin(channel, 0, CHANNELS - 1)) {
            throw new IllegalArgumentException("no such process or channel");
        }
        if (processes.counts[process] >= MOST_ACTIONS) {
            throw new IllegalStateException("too many actions");
        }
        return processes.append(process, channel, isPut);
    }

    public int setDepth(int channel, int depth) throws IllegalArgumentException {
        if (!isWithin(channel, 0, CHANNELS - 1) || !isWithin(depth, 1, MOST_DEPTH)) {
            throw new IllegalArgumentException("no such channel, or not 1 to 16 deep");
        }
        int before = processes.depths[channel];
        processes.depths[channel] = depth;
        return before;
    }

    public int done() {
        processes.goWithTheirDepths();
        return processes.countDone();
    }

    public int waitsFor(int process) throws IllegalArgumentException {
        if (!isWithin(process, 0, PROCESSES - 1)) {
            throw new IllegalArgumentException("no such process");
        }
        processes.goWithTheirDepths();
        return processes.nextChannel(process);
    }

    public boolean areLocked() {
        processes.goWithTheirDepths();
        return processes.isSomeLeft();
    }

    public int leastDepth() throws NoSuchElementException {
        int depth = processes.findLeastDepth();
        if (depth == NONE) {
            throw new NoSuchElementException("locked by 16, too");
        }
        return depth;
    }

    // Figures.

    public long checksum() {
        prepare(WITH_PACE);
        long sum = 0;
        for (int node = 0; node < body.count; node++) {
            sum = sum * 31 + steps.byLists[node] + 7L * pace.places[node];
        }
        return sum;
    }

    public float busyShare(char kind) throws IllegalArgumentException {
        int number = KINDS.indexOf(kind);
        if (number < 0) {
            throw new IllegalArgumentException("no such kind");
        }
        prepare(WITH_PACE);
        int beginnings = body.units[number] * pace.interval;
        return beginnings < 1 ? 0 : (float) body.ofKind[number] / (float) beginnings;
    }

    public double meanStep() throws ArithmeticException {
        prepare(WITH_STEPS);
        if (body.count < 1) {
            throw new ArithmeticException("no nodes");
        }
        int sum = 0;
        for (int node = 0; node < body.count; node++) {
            sum += steps.byLists[node];
        }
        return (double) sum / (double) body.count;
    }

    public boolean isSound() {
        carryOut();
        prepare(WITH_CIRCUIT);
        return steps.areKept(body, graph) && steps.areInOrder(body)
                && pace.isKept(body, graph) && result.isLike(circuit.state);
    }

    // Helpers.

    private static boolean isWithin(int number, int least, int most) {
        return number >= least && number <= most;
    }

    private static boolean isDivided(int number, int divisor) {
        return divisor > 0 && number % divisor == 0;
    }

    private static boolean isPlace(char memory, int place) {
        return MEMORY_SIGNS.indexOf(memory) >= 0 && isWithin(place, 0, PLACES - 1);
    }

    private void checkNode(int node) throws IndexOutOfBoundsException {
        if (node < 0 || node >= body.count) {
            throw new IndexOutOfBoundsException("no such node");
        }
    }

    private void changeBody() {
        made = WITH_NOTHING;
        isCarriedOut = false;
    }

    // Edges, steps and the interval do not depend on values and turns.
    private void changeValues() {
        made = Math.min(made, WITH_PACE);
        isCarriedOut = false;
    }

    private void carryOut() {
        if (!isCarriedOut) {
            program.carryOut(result);
            isCarriedOut = true;
        }
    }

    private void prepare(int stage) {
        if (made < WITH_NODES && stage >= WITH_NODES) {
            body.number(program);
        }
        if (made < WITH_EDGES && stage >= WITH_EDGES) {
            graph.join(body, program.factor);
        }
        if (made < WITH_STEPS && stage >= WITH_STEPS) {
            steps.order(body, graph);
        }
        if (made < WITH_PACE && stage >= WITH_PACE) {
            pace.find(body, graph);
        }
        if (made < WITH_CIRCUIT && stage >= WITH_CIRCUIT) {
            circuit.turn(program, body, pace);
        }
        made = Math.max(made, stage);
    }

    /** The buffer, and the reading of a statement from it. */
    private static final class Text {
        private final char[] signs = new char[MOST_SIGNS];
        private int count;
        private int at;

        private void append(char sign) {
            if (count < MOST_SIGNS) {
                signs[count] = sign;
                count++;
            }
        }

        private int empty() {
            int before = count;
            count = 0;
            return before;
        }

        // Answers the place of the fault, or NONE; reading never passes a sign that does not fit, so it stands there.
        private int readInto(Statement statement) {
            at = 0;
            statement.forget();
            boolean isWhole = readTarget(statement) && readSign('=') && readOperand(statement, FIRST)
                    && (at == count || readOperation(statement) && readOperand(statement, SECOND) && at == count);
            return isWhole ? NONE : at;
        }

        private char next() {
            return at < count ? signs[at] : NO_SIGN;
        }

        private boolean readSign(char sign) {
            if (next() != sign) {
                return false;
            }
            at++;
            return true;
        }

        private boolean readTarget(Statement statement) {
            if (readSign('>')) {
                statement.forms[TARGET] = CHANNEL_OUT;
                return true;
            }
            return readRegister(statement, TARGET) || readPlace(statement, TARGET);
        }

        private boolean readOperation(Statement statement) {
            if (OPERATIONS.indexOf(next()) < 0) {
                return false;
            }
            statement.operation = next();
            at++;
            return true;
        }

        private boolean readOperand(Statement statement, int part) {
            if (readSign('<')) {
                statement.forms[part] = CHANNEL_IN;
                return true;
            }
            if (readSign('i')) {
                statement.forms[part] = TURN;
                return true;
            }
            if (isDigit(next())) {
                statement.forms[part] = NUMBER;
                statement.numbers[part] = readNumber(2);
                return true;
            }
            return readRegister(statement, part) || readPlace(statement, part);
        }

        private boolean readRegister(Statement statement, int part) {
            char sign = next();
            if (sign < 'a' || sign > 'h') {
                return false;
            }
            at++;
            statement.forms[part] = REGISTER;
            statement.numbers[part] = sign - 'a';
            return true;
        }

        private boolean readPlace(Statement statement, int part) {
            int memory = MEMORY_SIGNS.indexOf(next());
            if (memory < 0) {
                return false;
            }
            at++;
            statement.forms[part] = MEMORY + memory;
            return readSign('[') && readIndex(statement, part) && readSign(']');
        }

        private boolean readIndex(Statement statement, int part) {
            boolean isTurning = readSign('i');
            statement.areTurning[part] = isTurning;
            boolean isLess = isTurning && readSign('-');
            if (isTurning && !isLess && !readSign('+')) {
                return true;
            }
            if (!isDigit(next())) {
                return false;
            }
            int number = readNumber(isTurning ? 1 : 2);
            statement.numbers[part] = isLess ? -number : number;
            return true;
        }

        private int readNumber(int mostDigits) {
            int number = 0;
            for (int digits = 0; digits < mostDigits && isDigit(next()); digits++) {
                number = number * 10 + next() - '0';
                at++;
            }
            return number;
        }

        private static boolean isDigit(char sign) {
            return sign >= '0' && sign <= '9';
        }
    }

    /** A statement: for each part its form, and its register, number, place or offset to i. */
    private static final class Statement {
        private final int[] forms = new int[PARTS];
        private final int[] numbers = new int[PARTS];
        private final boolean[] areTurning = new boolean[PARTS];
        private char operation = NO_SIGN;

        private void forget() {
            for (int part = 0; part < PARTS; part++) {
                forms[part] = NONE;
                numbers[part] = 0;
                areTurning[part] = false;
            }
            operation = NO_SIGN;
        }

        private boolean hasOperation() {
            return operation != NO_SIGN;
        }

        private boolean isReading(int part) {
            return forms[part] >= MEMORY && forms[part] <= CHANNEL_IN;
        }

        private int placeOf(int part, int i) {
            return areTurning[part] ? i + numbers[part] : numbers[part];
        }

        private int registerIn(int part) {
            return forms[part] == REGISTER ? numbers[part] : NONE;
        }

        private int maskOfRegister(int part) {
            return forms[part] == REGISTER ? 1 << numbers[part] : 0;
        }

        private int kindOfOperation() {
            switch (operation) {
                case '+':
                case '-':
                case 'l':
                    return ADDING;
                case '*':
                    return MULTIPLYING;
                default:
                    return MOVING;
            }
        }

        private int operate(int first, int second) {
            switch (operation) {
                case '+':
                    return first + second;
                case '-':
                    return first - second;
                case '*':
                    return first * second;
                case '&':
                    return first & second;
                case '|':
                    return first | second;
                case '^':
                    return first ^ second;
                default:
                    return first < second ? 1 : 0;
            }
        }
    }

    /** The statements with all that was told for them, as it was told. */
    private static final class Program {
        private final Statement[] statements = new Statement[MOST_STATEMENTS];
        private final int[] inputs = new int[MOST_INPUTS];
        private final int[][] told = new int[MEMORIES][PLACES];
        private Statement spare = new Statement();
        private int count;
        private int inputCount;
        private int turns = 8;
        private int bits = 8;
        private int factor = 1;

        private Program() {
            for (int statement = 0; statement < MOST_STATEMENTS; statement++) {
                statements[statement] = new Statement();
            }
        }

        // The statement that was read takes a row's place, and that one is read into the next time.
        private void useSpare(int statement) {
            Statement before = statements[statement];
            statements[statement] = spare;
            spare = before;
        }

        private int bodyTurns() {
            return factor > 0 ? turns / factor : turns;
        }

        private int cut(int value) {
            return value & (1 << bits) - 1;
        }

        private void carryOut(State state) {
            state.begin(this);
            for (int turn = 0; turn < turns; turn++) {
                for (int statement = 0; statement < count; statement++) {
                    carryOutOne(statements[statement], turn, state);
                }
            }
        }

        private void carryOutOne(Statement statement, int i, State state) {
            int value = valueOf(statement, FIRST, i, state);
            if (statement.hasOperation()) {
                value = cut(statement.operate(value, valueOf(statement, SECOND, i, state)));
            }
            write(statement, i, value, state);
        }

        private int valueOf(Statement statement, int part, int i, State state) {
            switch (statement.forms[part]) {
                case REGISTER:
                    return state.registers[statement.numbers[part]];
                case NUMBER:
                    return cut(statement.numbers[part]);
                case TURN:
                    return cut(i);
                case CHANNEL_IN:
                    return takeInput(state);
                default:
                    return state.look(statement.forms[part] - MEMORY, statement.placeOf(part, i));
            }
        }

        private int takeInput(State state) {
            if (state.takenCount >= inputCount) {
                return 0;
            }
            int value = cut(inputs[state.takenCount]);
            state.takenCount++;
            return value;
        }

        private void write(Statement statement, int i, int value, State state) {
            int form = statement.forms[TARGET];
            if (form == REGISTER) {
                state.registers[statement.numbers[TARGET]] = value;
            } else if (form == CHANNEL_OUT) {
                state.putOut(value);
            } else {
                state.keep(form - MEMORY, statement.placeOf(TARGET, i), value);
            }
        }
    }

    /** What registers and memories have, what came out and how much was taken. */
    private static final class State {
        private final int[] registers = new int[REGISTERS];
        private final int[][] memories = new int[MEMORIES][PLACES];
        private final int[] outputs = new int[MOST_OUTPUTS];
        private int outputCount;
        private int takenCount;

        private void begin(Program program) {
            for (int register = 0; register < REGISTERS; register++) {
                registers[register] = 0;
            }
            for (int memory = 0; memory < MEMORIES; memory++) {
                for (int place = 0; place < PLACES; place++) {
                    memories[memory][place] = program.cut(program.told[memory][place]);
                }
            }
            outputCount = 0;
            takenCount = 0;
        }

        private static boolean isInside(int memory, int place) {
            return memory >= 0 && memory < MEMORIES && place >= 0 && place < PLACES;
        }

        private int look(int memory, int place) {
            return isInside(memory, place) ? memories[memory][place] : 0;
        }

        private void keep(int memory, int place, int value) {
            if (isInside(memory, place)) {
                memories[memory][place] = value;
            }
        }

        private void putOut(int value) {
            if (outputCount < MOST_OUTPUTS) {
                outputs[outputCount] = value;
                outputCount++;
            }
        }

        private boolean isLike(State other) {
            if (outputCount != other.outputCount) {
                return false;
            }
            for (int index = 0; index < outputCount; index++) {
                if (outputs[index] != other.outputs[index]) {
                    return false;
                }
            }
            return hasRegistersOf(other) && hasMemoriesOf(other);
        }

        private boolean hasRegistersOf(State other) {
            for (int register = 0; register < REGISTERS; register++) {
                if (registers[register] != other.registers[register]) {
                    return false;
                }
            }
            return true;
        }

        private boolean hasMemoriesOf(State other) {
            for (int memory = 0; memory < MEMORIES; memory++) {
                for (int place = 0; place < PLACES; place++) {
                    if (memories[memory][place] != other.memories[memory][place]) {
                        return false;
                    }
                }
            }
            return true;
        }
    }

    /** A node: what it does of its statement, from which nodes its operands come, and which registers it meets. */
    private static final class Node {
        private Statement source;
        private int statement;
        private int copy;
        private int kind;
        private int part;
        private int firstGiver;
        private int secondGiver;
        private int uses;
        private int makes;
        private int firstPlace;
        private boolean isTurning;
        private boolean isOperating;
        private boolean isWriting;

        private void set(Statement itsSource, int itsStatement, int itsCopy, int itsKind) {
            source = itsSource;
            statement = itsStatement;
            copy = itsCopy;
            kind = itsKind;
            part = FIRST;
            firstGiver = NONE;
            secondGiver = NONE;
            uses = 0;
            makes = NONE;
            firstPlace = 0;
            isTurning = false;
            isOperating = false;
            isWriting = false;
        }

        // Takes the index of a part: the place that it tells in the first turn of the body, and whether that has i.
        private void setPlace(int itsPart) {
            firstPlace = source.placeOf(itsPart, copy);
            isTurning = source.areTurning[itsPart];
        }

        private boolean isUsing(int register) {
            return (uses & 1 << register) != 0;
        }
    }

    /** The nodes of a body, and the units and cycles of their kinds. */
    private static final class Body {
        private final Node[] nodes = new Node[MOST_NODES];
        private final int[] units = new int[KIND_COUNT];
        private final int[] cycles = new int[KIND_COUNT];
        private final int[] ofKind = new int[KIND_COUNT];
        private int count;

        private Body() {
            for (int node = 0; node < MOST_NODES; node++) {
                nodes[node] = new Node();
            }
            for (int kind = 0; kind < KIND_COUNT; kind++) {
                units[kind] = 1;
                cycles[kind] = 1;
            }
        }

        private void number(Program program) {
            count = 0;
            for (int kind = 0; kind < KIND_COUNT; kind++) {
                ofKind[kind] = 0;
            }
            for (int copy = 0; copy < program.factor; copy++) {
                for (int statement = 0; statement < program.count; statement++) {
                    numberOne(program.statements[statement], copy * program.count + statement, copy);
                }
            }
        }

        private void numberOne(Statement source, int statement, int copy) {
            int first = appendReading(source, statement, copy, FIRST);
            int second = appendReading(source, statement, copy, SECOND);
            int register = source.registerIn(TARGET);
            int last = first;
            if (source.hasOperation()) {
                last = append(source, statement, copy, source.kindOfOperation());
                nodes[last].isOperating = true;
                nodes[last].firstGiver = first;
                nodes[last].secondGiver = second;
                nodes[last].uses = source.maskOfRegister(FIRST) | source.maskOfRegister(SECOND);
            } else if (first == NONE && register != NONE) {
                last = append(source, statement, copy, MOVING);
                nodes[last].uses = source.maskOfRegister(FIRST);
            }
            if (register == NONE) {
                appendWriting(source, statement, copy, last);
            } else if (last != NONE) {
                nodes[last].makes = register;
            }
        }

        private int appendReading(Statement source, int statement, int copy, int part) {
            if (!source.isReading(part)) {
                return NONE;
            }
            int node = append(source, statement, copy, source.forms[part]);
            nodes[node].part = part;
            nodes[node].setPlace(part);
            return node;
        }

        private void appendWriting(Statement source, int statement, int copy, int giver) {
            int node = append(source, statement, copy, source.forms[TARGET]);
            nodes[node].isWriting = true;
            nodes[node].setPlace(TARGET);
            nodes[node].firstGiver = giver;
            nodes[node].uses = giver == NONE ? source.maskOfRegister(FIRST) : 0;
        }

        private int append(Statement source, int statement, int copy, int kind) {
            int node = Math.min(count, MOST_NODES - 1);
            nodes[node].set(source, statement, copy, kind);
            ofKind[kind]++;
            count = node + 1;
            return node;
        }

        private int cyclesOf(int node) {
            return cycles[nodes[node].kind];
        }

        private int sumOfCycles() {
            int sum = 0;
            for (int node = 0; node < count; node++) {
                sum += cyclesOf(node);
            }
            return sum;
        }

        private int endOf(int[] begins) {
            int end = 0;
            for (int node = 0; node < count; node++) {
                end = Math.max(end, begins[node] + cyclesOf(node));
            }
            return end;
        }

        private int leastIntervalOf(int kind) {
            int few = units[kind];
            return few < 1 ? 0 : (ofKind[kind] + few - 1) / few;
        }

        private boolean areUnitsKept(int[] begins, int interval) {
            for (int node = 0; node < count; node++) {
                if (countTogether(begins, interval, node) > units[nodes[node].kind]) {
                    return false;
                }
            }
            return true;
        }

        private int countTogether(int[] begins, int interval, int node) {
            int together = 0;
            for (int other = 0; other < count; other++) {
                if (nodes[other].kind == nodes[node].kind && isDivided(begins[other] - begins[node], interval)) {
                    together++;
                }
            }
            return together;
        }

        private int lastMakerAhead(int register, int node) {
            for (int maker = node - 1; maker >= 0; maker--) {
                if (nodes[maker].makes == register) {
                    return maker;
                }
            }
            return NONE;
        }

        private int nextMakerBehind(int register, int node) {
            for (int maker = node + 1; maker < count; maker++) {
                if (nodes[maker].makes == register) {
                    return maker;
                }
            }
            return NONE;
        }
    }

    /** The edges between the nodes of a body, in a row for each node from which they come. */
    private static final class Graph {
        private final int[][] tos = new int[MOST_NODES][MOST_EDGES_FROM];
        private final int[][] distances = new int[MOST_NODES][MOST_EDGES_FROM];
        private final int[][] weights = new int[MOST_NODES][MOST_EDGES_FROM];
        private final int[] sizes = new int[MOST_NODES];
        private int count;

        private void join(Body body, int factor) {
            count = 0;
            for (int node = 0; node < MOST_NODES; node++) {
                sizes[node] = 0;
            }
            joinWithinStatements(body);
            for (int register = 0; register < REGISTERS; register++) {
                joinRegister(body, register);
            }
            for (int memory = 0; memory < MEMORIES; memory++) {
                joinMemory(body, MEMORY + memory, factor);
            }
            joinChannel(body, CHANNEL_IN);
            joinChannel(body, CHANNEL_OUT);
        }

        private int find(int from, int to, int distance) {
            for (int edge = 0; edge < sizes[from]; edge++) {
                if (tos[from][edge] == to && distances[from][edge] == distance) {
                    return edge;
                }
            }
            return NONE;
        }

        private void put(int from, int to, int distance, int weight) {
            int edge = find(from, to, distance);
            if (edge != NONE) {
                weights[from][edge] = Math.max(weights[from][edge], weight);
            } else if (sizes[from] < MOST_EDGES_FROM) {
                edge = sizes[from];
                tos[from][edge] = to;
                distances[from][edge] = distance;
                weights[from][edge] = weight;
                sizes[from] = edge + 1;
                count++;
            }
        }

        private void joinWithinStatements(Body body) {
            for (int node = 0; node < body.count; node++) {
                joinGiver(body, body.nodes[node].firstGiver, node);
                joinGiver(body, body.nodes[node].secondGiver, node);
            }
        }

        private void joinGiver(Body body, int giver, int node) {
            if (giver != NONE) {
                put(giver, node, 0, body.cyclesOf(giver));
            }
        }

        private void joinRegister(Body body, int register) {
            if (body.nextMakerBehind(register, NONE) == NONE) {
                return;
            }
            for (int node = 0; node < body.count; node++) {
                boolean isUsing = body.nodes[node].isUsing(register);
                boolean isMaking = body.nodes[node].makes == register;
                if (isUsing) {
                    joinMakerAhead(body, register, node);
                }
                if (isUsing || isMaking) {
                    joinMakerBehind(body, register, node);
                }
            }
        }

        private void joinMakerAhead(Body body, int register, int node) {
            int distance = 0;
            int maker = body.lastMakerAhead(register, node);
            if (maker == NONE) {
                distance = 1;
                maker = body.lastMakerAhead(register, body.count);
            }
            if (maker != NONE) {
                put(maker, node, distance, body.cyclesOf(maker));
            }
        }

        private void joinMakerBehind(Body body, int register, int node) {
            int distance = 0;
            int maker = body.nextMakerBehind(register, node);
            if (maker == NONE) {
                distance = 1;
                maker = body.nextMakerBehind(register, NONE);
            }
            if (maker == NONE || maker == node) {
                return;
            }
            int least = 1 - body.cyclesOf(maker);
            if (body.nodes[node].isUsing(register)) {
                put(node, maker, distance, least);
            }
            if (body.nodes[node].makes == register) {
                put(node, maker, distance, least + body.cyclesOf(node));
            }
        }

        private void joinMemory(Body body, int kind, int factor) {
            for (int from = 0; from < body.count; from++) {
                if (body.nodes[from].kind != kind) {
                    continue;
                }
                for (int to = 0; to < body.count; to++) {
                    if (to != from && body.nodes[to].kind == kind) {
                        joinPlaces(body, from, to, factor);
                    }
                }
            }
        }

        private void joinPlaces(Body body, int from, int to, int factor) {
            Node first = body.nodes[from];
            Node second = body.nodes[to];
            if (!first.isWriting && !second.isWriting) {
                return;
            }
            int distance = distanceTo(first, second, from < to, factor);
            if (distance == NONE) {
                return;
            }
            if (!second.isWriting) {
                put(from, to, distance, body.cyclesOf(from));
            } else if (!first.isWriting) {
                put(from, to, distance, 1 - body.cyclesOf(to));
            } else {
                put(from, to, distance, 1);
            }
        }

        private static int distanceTo(Node first, Node second, boolean isBehind, int factor) {
            int ahead = first.firstPlace - second.firstPlace;
            if (first.isTurning && second.isTurning) {
                if (ahead < 0 || !isDivided(ahead, factor) || ahead == 0 && !isBehind) {
                    return NONE;
                }
                return factor > 0 ? ahead / factor : NONE;
            }
            if (!first.isTurning && !second.isTurning && ahead != 0) {
                return NONE;
            }
            return isBehind ? 0 : 1;
        }

        private void joinChannel(Body body, int kind) {
            int first = NONE;
            int last = NONE;
            for (int node = 0; node < body.count; node++) {
                if (body.nodes[node].kind == kind) {
                    if (last == NONE) {
                        first = node;
                    } else {
                        put(last, node, 0, 1);
                    }
                    last = node;
                }
            }
            if (last != first) {
                put(last, first, 1, 1);
            }
        }

        // Whether steps keep all edges up to a distance, if turns begin at the interval.
        private boolean isKept(Body body, int[] begins, int interval, int mostDistance) {
            for (int from = 0; from < body.count; from++) {
                for (int edge = 0; edge < sizes[from]; edge++) {
                    int distance = distances[from][edge];
                    int behind = begins[tos[from][edge]] + interval * distance - begins[from];
                    if (distance <= mostDistance && behind < weights[from][edge]) {
                        return false;
                    }
                }
            }
            return true;
        }
    }

    /** Steps as soon and as late as possible, and by lists. */
    private static final class Steps {
        private final int[] soonest = new int[MOST_NODES];
        private final int[] latest = new int[MOST_NODES];
        private final int[] byLists = new int[MOST_NODES];
        private final int[] earliest = new int[MOST_NODES];
        private final int[] missing = new int[MOST_NODES];
        private final int[] begun = new int[KIND_COUNT];
        private final int[] waits = new int[MOST_LENGTH];

        // Edges of the distance 0 always go to a greater number, so one pass through the numbers is enough.
        private void order(Body body, Graph graph) {
            orderSoonest(body, graph);
            orderLatest(body, graph);
            orderByLists(body, graph);
        }

        private void orderSoonest(Body body, Graph graph) {
            for (int node = 0; node < body.count; node++) {
                soonest[node] = 0;
            }
            for (int from = 0; from < body.count; from++) {
                for (int edge = 0; edge < graph.sizes[from]; edge++) {
                    if (graph.distances[from][edge] == 0) {
                        int to = graph.tos[from][edge];
                        soonest[to] = Math.max(soonest[to], soonest[from] + graph.weights[from][edge]);
                    }
                }
            }
        }

        private void orderLatest(Body body, Graph graph) {
            int end = body.endOf(soonest);
            for (int from = body.count - 1; from >= 0; from--) {
                latest[from] = end - body.cyclesOf(from);
                for (int edge = 0; edge < graph.sizes[from]; edge++) {
                    if (graph.distances[from][edge] == 0) {
                        int to = graph.tos[from][edge];
                        latest[from] = Math.min(latest[from], latest[to] - graph.weights[from][edge]);
                    }
                }
            }
        }

        private void orderByLists(Body body, Graph graph) {
            startLists(body, graph);
            int left = body.count;
            for (int cycle = 0; cycle < MOST_LENGTH && left > 0; cycle++) {
                left -= beginAllAt(body, graph, cycle);
            }
        }

        private int beginAllAt(Body body, Graph graph, int cycle) {
            for (int kind = 0; kind < KIND_COUNT; kind++) {
                begun[kind] = 0;
            }
            for (int beginnings = 0; beginnings < body.count; beginnings++) {
                int node = chooseFor(body, cycle);
                if (node == NONE) {
                    return beginnings;
                }
                beginAt(body, graph, node, cycle);
            }
            return body.count;
        }

        private void startLists(Body body, Graph graph) {
            for (int node = 0; node < body.count; node++) {
                byLists[node] = NONE;
                earliest[node] = 0;
                missing[node] = 0;
            }
            for (int from = 0; from < body.count; from++) {
                for (int edge = 0; edge < graph.sizes[from]; edge++) {
                    if (graph.distances[from][edge] == 0) {
                        missing[graph.tos[from][edge]]++;
                    }
                }
            }
        }

        private int chooseFor(Body body, int cycle) {
            int chosen = NONE;
            for (int node = 0; node < body.count; node++) {
                int kind = body.nodes[node].kind;
                if (byLists[node] == NONE && missing[node] == 0 && earliest[node] <= cycle
                        && begun[kind] < body.units[kind]
                        && (chosen == NONE || latest[node] < latest[chosen])) {
                    chosen = node;
                }
            }
            return chosen;
        }

        private void beginAt(Body body, Graph graph, int node, int cycle) {
            byLists[node] = cycle;
            begun[body.nodes[node].kind]++;
            for (int edge = 0; edge < graph.sizes[node]; edge++) {
                if (graph.distances[node][edge] == 0) {
                    int to = graph.tos[node][edge];
                    missing[to]--;
                    earliest[to] = Math.max(earliest[to], cycle + graph.weights[node][edge]);
                }
            }
        }

        private int countIn(Body body, int step) {
            int count = 0;
            for (int node = 0; node < body.count; node++) {
                if (byLists[node] == step) {
                    count++;
                }
            }
            return count;
        }

        private int mostWaiting(Body body) {
            int end = Math.min(body.endOf(byLists), MOST_LENGTH);
            for (int cycle = 0; cycle < end; cycle++) {
                waits[cycle] = 0;
            }
            for (int maker = 0; maker < body.count; maker++) {
                if (body.nodes[maker].makes != NONE) {
                    waitFor(maker, body, end);
                }
            }
            int most = 0;
            for (int cycle = 0; cycle < end; cycle++) {
                most = Math.max(most, waits[cycle]);
            }
            return most;
        }

        private void waitFor(int maker, Body body, int end) {
            int register = body.nodes[maker].makes;
            int last = Math.min(lastUse(maker, register, body, end), end - 1);
            for (int cycle = byLists[maker] + body.cyclesOf(maker); cycle <= last; cycle++) {
                waits[cycle]++;
            }
        }

        // Users are sought up to the next maker, which may use the register itself; round the turn if there is none.
        private int lastUse(int maker, int register, Body body, int end) {
            int next = body.nextMakerBehind(register, maker);
            int last = NONE;
            for (int node = maker + 1; node < body.count && (next == NONE || node <= next); node++) {
                if (body.nodes[node].isUsing(register)) {
                    last = Math.max(last, byLists[node]);
                }
            }
            if (next != NONE) {
                return last;
            }
            int first = body.nextMakerBehind(register, NONE);
            for (int node = 0; node <= first; node++) {
                if (body.nodes[node].isUsing(register)) {
                    return end - 1;
                }
            }
            return last;
        }

        private boolean areInOrder(Body body) {
            for (int node = 0; node < body.count; node++) {
                if (latest[node] < soonest[node]) {
                    return false;
                }
            }
            return true;
        }

        // Begun at an interval that no step reaches, nodes meet others of the same step alone.
        private boolean areKept(Body body, Graph graph) {
            return graph.isKept(body, byLists, 0, 0) && body.areUnitsKept(byLists, MOST_LENGTH);
        }
    }

    /** The interval, what binds it, and the steps of the nodes at it. */
    private static final class Pace {
        private final int[] places = new int[MOST_NODES];
        private final int[] leasts = new int[MOST_NODES];
        private final int[][] begun = new int[KIND_COUNT][MOST_LENGTH];
        private int leastByRings = 1;
        private int leastByUnits = 1;
        private int interval = 1;

        private void find(Body body, Graph graph) {
            leastByRings = findByRings(body, graph);
            leastByUnits = findByUnits(body);
            interval = Math.max(leastByRings, leastByUnits);
            boolean arePlaced = placeAll(body, graph);
            // By the cycles of all nodes each one fits behind those ahead of it, in the same turn.
            int most = body.sumOfCycles();
            for (int tried = interval + 1; tried <= most && !arePlaced; tried++) {
                interval = tried;
                arePlaced = placeAll(body, graph);
            }
        }

        // An edge weighs at most the cycles of the node from which it comes, so no ring needs more than all cycles.
        private int findByRings(Body body, Graph graph) {
            int least = 1;
            int most = Math.max(1, body.sumOfCycles());
            for (int tries = 0; tries < MOST_LENGTH && least < most; tries++) {
                int middle = (least + most) / 2;
                if (isAllowedByRings(body, graph, middle)) {
                    most = middle;
                } else {
                    least = middle + 1;
                }
            }
            return least;
        }

        // Without a ring that is too heavy, the heaviest ways have fewer edges than there are nodes.
        private boolean isAllowedByRings(Body body, Graph graph, int tried) {
            for (int node = 0; node < body.count; node++) {
                leasts[node] = 0;
            }
            int most = body.sumOfCycles();
            for (int round = 0; round <= body.count; round++) {
                int heaviest = pushAll(body, graph, tried);
                if (heaviest == NONE) {
                    return true;
                }
                if (heaviest > most) {
                    return false;
                }
            }
            return false;
        }

        // Answers the heaviest way that became heavier, or NONE.
        private int pushAll(Body body, Graph graph, int tried) {
            int heaviest = NONE;
            for (int from = 0; from < body.count; from++) {
                for (int edge = 0; edge < graph.sizes[from]; edge++) {
                    int to = graph.tos[from][edge];
                    int way = leasts[from] + graph.weights[from][edge] - tried * graph.distances[from][edge];
                    if (way > leasts[to]) {
                        leasts[to] = way;
                        heaviest = Math.max(heaviest, way);
                    }
                }
            }
            return heaviest;
        }

        private static int findByUnits(Body body) {
            int least = 1;
            for (int kind = 0; kind < KIND_COUNT; kind++) {
                least = Math.max(least, body.leastIntervalOf(kind));
            }
            return least;
        }

        private boolean placeAll(Body body, Graph graph) {
            for (int kind = 0; kind < KIND_COUNT; kind++) {
                for (int rest = 0; rest < interval && rest < MOST_LENGTH; rest++) {
                    begun[kind][rest] = 0;
                }
            }
            for (int node = 0; node < body.count; node++) {
                leasts[node] = 0;
            }
            for (int node = 0; node < body.count; node++) {
                int kind = body.nodes[node].kind;
                int step = findStep(graph, node, kind, body.units[kind]);
                if (step == NONE) {
                    return false;
                }
                placeAt(graph, node, kind, step);
            }
            return true;
        }

        private int findStep(Graph graph, int node, int kind, int units) {
            int least = leasts[node];
            int most = least + interval - 1;
            for (int edge = 0; edge < graph.sizes[node]; edge++) {
                int to = graph.tos[node][edge];
                if (to < node) {
                    int begin = places[to] + interval * graph.distances[node][edge];
                    most = Math.min(most, begin - graph.weights[node][edge]);
                }
            }
            for (int step = least; step <= most; step++) {
                if (begun[kind][restOf(step)] < units) {
                    return step;
                }
            }
            return NONE;
        }

        private void placeAt(Graph graph, int node, int kind, int step) {
            places[node] = step;
            begun[kind][restOf(step)]++;
            for (int edge = 0; edge < graph.sizes[node]; edge++) {
                int to = graph.tos[node][edge];
                int least = step + graph.weights[node][edge] - interval * graph.distances[node][edge];
                leasts[to] = Math.max(leasts[to], least);
            }
        }

        private int restOf(int step) {
            int rest = interval > 0 ? step % interval : 0;
            return isWithin(rest, 0, MOST_LENGTH - 1) ? rest : 0;
        }

        private char findBinding(Body body) {
            if (body.count == 0 || interval > Math.max(leastByRings, leastByUnits)) {
                return '-';
            }
            if (leastByRings > leastByUnits) {
                return 'r';
            }
            for (int kind = 0; kind < KIND_COUNT; kind++) {
                if (body.leastIntervalOf(kind) == leastByUnits) {
                    return KINDS.charAt(kind);
                }
            }
            return '-';
        }

        private int countCycles(Body body, int turns) {
            return body.count == 0 ? 0 : body.endOf(places) + interval * (turns - 1);
        }

        private boolean isKept(Body body, Graph graph) {
            return graph.isKept(body, places, interval, MOST_DISTANCE) && body.areUnitsKept(places, interval);
        }
    }

    /** The circuit, cycle by cycle. */
    private static final class Circuit {
        private final State state = new State();
        private final int[] values = new int[MOST_NODES * MOST_TURNS];

        private void turn(Program program, Body body, Pace pace) {
            state.begin(program);
            int turns = program.bodyTurns();
            int end = pace.countCycles(body, turns);
            for (int cycle = 0; cycle <= end; cycle++) {
                for (int node = 0; node < body.count; node++) {
                    int since = cycle - pace.places[node] - body.cyclesOf(node);
                    finish(program, body.nodes[node], node, turnAfter(since, pace.interval, turns));
                }
                for (int node = 0; node < body.count; node++) {
                    int since = cycle - pace.places[node];
                    begin(program, body.nodes[node], node, turnAfter(since, pace.interval, turns));
                }
            }
        }

        private static int turnAfter(int since, int interval, int turns) {
            if (since < 0 || interval < 1 || since % interval != 0) {
                return NONE;
            }
            int turn = since / interval;
            return turn < turns ? turn : NONE;
        }

        private void finish(Program program, Node node, int number, int turn) {
            if (turn != NONE && (node.isWriting || node.makes != NONE)) {
                int i = program.factor * turn + node.copy;
                program.write(node.source, i, valueFrom(number, turn), state);
            }
        }

        private void begin(Program program, Node node, int number, int turn) {
            if (turn == NONE) {
                return;
            }
            int i = program.factor * turn + node.copy;
            int value = node.firstGiver == NONE
                    ? program.valueOf(node.source, node.part, i, state) : valueFrom(node.firstGiver, turn);
            if (node.isOperating) {
                int second = node.secondGiver == NONE
                        ? program.valueOf(node.source, SECOND, i, state) : valueFrom(node.secondGiver, turn);
                value = program.cut(node.source.operate(value, second));
            }
            values[number * MOST_TURNS + turn] = value;
        }

        private int valueFrom(int node, int turn) {
            return values[node * MOST_TURNS + turn];
        }
    }

    /** The processes with their actions, and the channels between them. */
    private static final class Processes {
        private final int[][] channels = new int[PROCESSES][MOST_ACTIONS];
        private final int[][] changes = new int[PROCESSES][MOST_ACTIONS];
        private final int[] counts = new int[PROCESSES];
        private final int[] depths = new int[CHANNELS];
        private final int[] limits = new int[CHANNELS];
        private final int[] held = new int[CHANNELS];
        private final int[] dones = new int[PROCESSES];

        private Processes() {
            for (int channel = 0; channel < CHANNELS; channel++) {
                depths[channel] = 1;
            }
        }

        private int append(int process, int channel, boolean isPut) {
            int count = counts[process];
            if (count < MOST_ACTIONS) {
                channels[process][count] = channel;
                changes[process][count] = isPut ? 1 : -1;
                counts[process] = count + 1;
            }
            return counts[process];
        }

        private void goWithTheirDepths() {
            for (int channel = 0; channel < CHANNELS; channel++) {
                limits[channel] = depths[channel];
            }
            go();
        }

        private int findLeastDepth() {
            for (int depth = 1; depth <= MOST_DEPTH; depth++) {
                for (int channel = 0; channel < CHANNELS; channel++) {
                    limits[channel] = depth;
                }
                go();
                if (!isSomeLeft()) {
                    return depth;
                }
            }
            return NONE;
        }

        // Each round but the last one does an action, so there are no more rounds than actions and one.
        private void go() {
            for (int channel = 0; channel < CHANNELS; channel++) {
                held[channel] = 0;
            }
            for (int process = 0; process < PROCESSES; process++) {
                dones[process] = 0;
            }
            boolean isMoving = true;
            for (int round = 0; round <= PROCESSES * MOST_ACTIONS && isMoving; round++) {
                isMoving = false;
                for (int process = 0; process < PROCESSES; process++) {
                    int before = dones[process];
                    goOn(process);
                    isMoving = isMoving || dones[process] > before;
                }
            }
        }

        private void goOn(int process) {
            for (int action = dones[process]; action < counts[process]; action++) {
                int channel = channels[process][action];
                int holds = held[channel] + changes[process][action];
                if (holds < 0 || holds > limits[channel]) {
                    return;
                }
                held[channel] = holds;
                dones[process] = action + 1;
            }
        }

        private int countDone() {
            int sum = 0;
            for (int process = 0; process < PROCESSES; process++) {
                sum += dones[process];
            }
            return sum;
        }

        private int nextChannel(int process) {
            int action = dones[process];
            return action < counts[process] ? channels[process][action] : NONE;
        }

        private boolean isSomeLeft() {
            for (int process = 0; process < PROCESSES; process++) {
                if (dones[process] < counts[process]) {
                    return true;
                }
            }
            return false;
        }
    }
}
