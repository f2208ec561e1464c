import java.util.NoSuchElementException;

/** Each refused call with its exception, the one that is documented first, after which nothing has changed. */
public final class RefusedTest {
    private static final Checks CHECKS = new Checks();
    private static final Class<IllegalArgumentException> ARGUMENT = IllegalArgumentException.class;
    private static final Class<IllegalStateException> STATE = IllegalStateException.class;
    private static final Class<IndexOutOfBoundsException> INDEX = IndexOutOfBoundsException.class;
    private static final Class<UnsupportedOperationException> UNSUPPORTED = UnsupportedOperationException.class;
    private static final Class<NoSuchElementException> NO_ELEMENT = NoSuchElementException.class;
    private static final Class<ArithmeticException> ARITHMETIC = ArithmeticException.class;

    private static final String SIGNS = "0123456789abcdefghilMN=[]+-*&|^<>";
    private static final String KINDS = "amgMN<>";
    private static final int LEAST = Integer.MIN_VALUE;
    private static final int GREATEST = Integer.MAX_VALUE;

    interface Making {
        Schedulary make();
    }

    interface Refused {
        Object answer(Schedulary x);
    }

    /** The call is refused by an object, and all is as in another one that was made alike, without the call. */
    private static void refused(String what, Class<? extends RuntimeException> due, Making making, Refused call) {
        Schedulary x = making.make();
        CHECKS.throwing(what, due, () -> call.answer(x));
        CHECKS.same(what + " changes", Seen.difference(Seen.of(making.make()), Seen.of(x)), "");
        Schedulary asked = making.make();
        asked.isSound();
        asked.waiting();
        CHECKS.throwing(what + " when all is reckoned", due, () -> call.answer(asked));
        CHECKS.same(what + " changes what is reckoned", Seen.difference(Seen.of(making.make()), Seen.of(asked)), "");
    }

    private static Schedulary empty() {
        return new Schedulary();
    }

    /** Nothing is as at first: ten nodes in two copies, actions that wait, and h=7 in the buffer. */
    private static Schedulary rich() {
        Schedulary x = Checks.of("a=a+M[i]", ">=a*<");
        x.setTurns(6);
        x.unroll(2);
        x.setBits(7);
        x.input(300);
        x.input(5);
        x.setMemory('M', 2, 1000);
        x.setMemory('N', 15, 65535);
        for (int kind = 0; kind < KINDS.length(); kind++) {
            x.setUnits(KINDS.charAt(kind), kind < 5 ? 2 + kind % 3 : 1);
            x.setCycles(KINDS.charAt(kind), 2 + kind % 4);
        }
        x.action(0, 1, true);
        x.action(0, 1, true);
        x.action(0, 1, true);
        x.action(3, 2, false);
        x.setDepth(0, 3);
        x.setDepth(1, 2);
        x.setDepth(2, 16);
        x.setDepth(3, 5);
        Checks.typed(x, "h=7");
        return x;
    }

    private static Schedulary richWith(String buffer) {
        Schedulary x = rich();
        Checks.typed(x, buffer);
        return x;
    }

    private static Schedulary ofStatements(int statements, int turns, int factor, String buffer) {
        Schedulary x = new Schedulary();
        x.setTurns(turns);
        x.unroll(factor);
        for (int statement = 0; statement < statements; statement++) {
            Checks.typed(x, "a=" + statement);
            x.add();
        }
        Checks.typed(x, buffer);
        return x;
    }

    private static Schedulary withInputs() {
        Schedulary x = Checks.of("a=<");
        for (int input = 0; input < 32; input++) {
            x.input(input);
        }
        return x;
    }

    private static Schedulary withActions() {
        Schedulary x = new Schedulary();
        for (int action = 0; action < 16; action++) {
            x.action(2, 3, true);
        }
        return x;
    }

    /** If these changed nothing that is seen, the rows below would tell nothing. */
    private static void changesAreSeen() {
        Refused[] changes = {x -> x.type('7'), Schedulary::clear, Schedulary::add, x -> x.replace(0), x -> x.replace(1),
            x -> x.setTurns(8), x -> x.setBits(8), x -> x.unroll(1), x -> x.input(0), x -> x.setMemory('M', 2, 0),
            x -> x.setMemory('N', 15, 0), x -> x.setUnits('a', 1), x -> x.setUnits('m', 4), x -> x.setUnits('g', 1),
            x -> x.setUnits('M', 1), x -> x.setUnits('N', 1), x -> x.setCycles('a', 1), x -> x.setCycles('m', 1),
            x -> x.setCycles('g', 1), x -> x.setCycles('M', 1), x -> x.setCycles('N', 1), x -> x.setCycles('<', 1),
            x -> x.setCycles('>', 1), x -> x.action(0, 1, true), x -> x.action(1, 1, false), x -> x.action(2, 3, true),
            x -> x.action(3, 0, true), x -> x.setDepth(0, 1), x -> x.setDepth(1, 1), x -> x.setDepth(2, 1),
            x -> x.setDepth(3, 1)};
        for (int change = 0; change < changes.length; change++) {
            Schedulary x = rich();
            changes[change].answer(x);
            CHECKS.holds("change " + change + " is seen", !Seen.of(rich()).equals(Seen.of(x)));
        }
        CHECKS.same("what is made alike is seen alike", Seen.difference(Seen.of(rich()), Seen.of(rich())), "");
    }

    private static void typing() {
        for (int sign = 0; sign < 128; sign++) {
            char typed = (char) sign;
            if (SIGNS.indexOf(typed) < 0) {
                refused("2 no digit and none of these: " + sign, ARGUMENT, RefusedTest::rich, x -> x.type(typed));
            }
        }
        for (int sign : new int[] {128, 256, 256 + 'a', 65536 - 256 + 'a', 65535}) {
            refused("2 a sign far off: " + sign, ARGUMENT, RefusedTest::rich, x -> x.type((char) sign));
        }
        String full = "a=M[i]+M[i]]]]]]]]]]]]]]";
        CHECKS.same("2 signs of a full buffer", full.length(), 24);
        for (char sign : SIGNS.toCharArray()) {
            refused("2 if 24 are there: " + sign, STATE, () -> richWith(full), x -> x.type(sign));
        }
        refused("2 no sign, and 24 are there", ARGUMENT, () -> richWith(full), x -> x.type('j'));
        refused("2 no sign, and none are there", ARGUMENT, RefusedTest::empty, x -> x.type(' '));
    }

    private static void adding() {
        String[] noStatements = {"", "a", "a=", "h=7+", "h=777", "=7", "7=h", "h7", "h=7=", "h==7", "N[i", "N[i+",
            "N[i+1",
            "N[i+1]", "N[i+1]=", "N[i+1]=N", "i=7", "<=7", "h=>", "h=7+7+7", "N[]=7", "N[i+10]=7", "N[100]=7"};
        for (String noStatement : noStatements) {
            String what = noStatement.isEmpty() ? "nothing" : noStatement;
            refused("5 no statement: " + what, ARGUMENT, () -> richWith(noStatement), x -> x.add());
            refused("6 no statement: " + what, ARGUMENT, () -> richWith(noStatement), x -> x.replace(0));
            refused("6 no statement, for the last one: " + what, ARGUMENT, () -> richWith(noStatement),
                    x -> x.replace(1));
            refused("6 no such one, and no statement: " + what, INDEX, () -> richWith(noStatement), x -> x.replace(2));
        }
        refused("5 there are 12", STATE, () -> ofStatements(12, 8, 1, "h=7"), x -> x.add());
        refused("5 there are 12, and no statement", ARGUMENT, () -> ofStatements(12, 8, 1, "h="), x -> x.add());
        refused("5 there are 12, and nothing", ARGUMENT, () -> ofStatements(12, 8, 1, ""), x -> x.add());
        refused("5 26 in a body", STATE, () -> ofStatements(12, 8, 2, "h=7"), x -> x.add());
        refused("5 27 in a body", STATE, () -> ofStatements(8, 9, 3, "h=7"), x -> x.add());
        refused("5 28 in a body", STATE, () -> ofStatements(6, 8, 4, "h=7"), x -> x.add());
        refused("5 28 in a body, and no statement", ARGUMENT, () -> ofStatements(6, 8, 4, "h"), x -> x.add());
    }

    private static void replacing() {
        for (int statement : new int[] {-1, 2, 3, 4, 12, LEAST, GREATEST}) {
            refused("6 no such statement: " + statement, INDEX, RefusedTest::rich, x -> x.replace(statement));
        }
        refused("6 none at all", INDEX, () -> ofStatements(0, 8, 1, "h=7"), x -> x.replace(0));
        refused("6 none at all, and nothing", INDEX, RefusedTest::empty, x -> x.replace(0));
        refused("6 a 13th", INDEX, () -> ofStatements(12, 8, 1, "h=7"), x -> x.replace(12));
        refused("6 a number of the body", INDEX, () -> ofStatements(2, 8, 4, "h=7"), x -> x.replace(2));
    }

    private static void turnsBitsAndFactor() {
        for (int turns : new int[] {0, -1, -2, -8, 17, 18, 20, 24, LEAST, GREATEST}) {
            refused("7 out of range: " + turns, ARGUMENT, RefusedTest::rich, x -> x.setTurns(turns));
            refused("7 out of range at first: " + turns, ARGUMENT, RefusedTest::empty, x -> x.setTurns(turns));
        }
        for (int factor = 2; factor <= 4; factor++) {
            int by = factor;
            for (int turns = 1; turns <= 16; turns++) {
                int told = turns;
                if (turns % factor != 0) {
                    refused("7 " + turns + " are not divided by " + by, UNSUPPORTED,
                            () -> ofStatements(2, 12, by, "h=7"), x -> x.setTurns(told));
                    refused("9 " + by + " does not divide " + turns, UNSUPPORTED,
                            () -> ofStatements(2, told, 1, "h=7"), x -> x.unroll(by));
                }
            }
            refused("7 17 by " + by, ARGUMENT, () -> ofStatements(2, 12, by, "h=7"), x -> x.setTurns(17));
        }
        for (int bits : new int[] {0, -1, 17, 32, LEAST, GREATEST}) {
            refused("8 out of range: " + bits, ARGUMENT, RefusedTest::rich, x -> x.setBits(bits));
        }
        for (int factor : new int[] {0, -1, -2, 5, 6, 8, LEAST, GREATEST}) {
            refused("9 out of range: " + factor, ARGUMENT, RefusedTest::rich, x -> x.unroll(factor));
            refused("9 out of range, and too many: " + factor, ARGUMENT,
                    () -> ofStatements(12, 8, 1, "h=7"), x -> x.unroll(factor));
        }
        refused("9 27 in a body", STATE, () -> ofStatements(9, 12, 1, "h=7"), x -> x.unroll(3));
        refused("9 28 in a body", STATE, () -> ofStatements(7, 12, 2, "h=7"), x -> x.unroll(4));
        refused("9 48 in a body", STATE, () -> ofStatements(12, 12, 2, "h=7"), x -> x.unroll(4));
        refused("9 36 in a body, and a rest", UNSUPPORTED, () -> ofStatements(12, 8, 2, "h=7"), x -> x.unroll(3));
    }

    private static void inputsAndMemories() {
        for (int value : new int[] {-1, 65536, 65537, 131072, LEAST, GREATEST}) {
            refused("10 out of range: " + value, ARGUMENT, RefusedTest::rich, x -> x.input(value));
            refused("10 32 are there, and out of range: " + value, ARGUMENT,
                    RefusedTest::withInputs, x -> x.input(value));
            refused("11 a value out of range: " + value, ARGUMENT, RefusedTest::rich, x -> x.setMemory('N', 15, value));
        }
        for (int value : new int[] {0, 7, 65535}) {
            refused("10 32 are there: " + value, STATE, RefusedTest::withInputs, x -> x.input(value));
        }
        for (int sign = 0; sign < 128; sign++) {
            char memory = (char) sign;
            if (memory != 'M' && memory != 'N') {
                refused("11 no such memory: " + sign, ARGUMENT, RefusedTest::rich, x -> x.setMemory(memory, 2, 7));
                refused("16 no such memory: " + sign, ARGUMENT, RefusedTest::rich, x -> x.memoryAt(memory, 2));
                refused("39 no such memory: " + sign, ARGUMENT, RefusedTest::rich, x -> x.circuitMemory(memory, 2));
            }
        }
        for (int place : new int[] {-1, -2, -16, 16, 17, 32, LEAST, GREATEST}) {
            refused("11 no such place of M: " + place, ARGUMENT, RefusedTest::rich, x -> x.setMemory('M', place, 7));
            refused("11 no such place of N: " + place, ARGUMENT, RefusedTest::rich, x -> x.setMemory('N', place, 7));
            refused("16 no such place of M: " + place, ARGUMENT, RefusedTest::rich, x -> x.memoryAt('M', place));
            refused("16 no such place of N: " + place, ARGUMENT, RefusedTest::rich, x -> x.memoryAt('N', place));
            refused("39 no such place of M: " + place, ARGUMENT, RefusedTest::rich, x -> x.circuitMemory('M', place));
            refused("39 no such place of N: " + place, ARGUMENT, RefusedTest::rich, x -> x.circuitMemory('N', place));
        }
    }

    private static void unitsAndCycles() {
        for (int sign = 0; sign < 128; sign++) {
            char kind = (char) sign;
            if (KINDS.indexOf(kind) < 0) {
                refused("12 no such kind: " + sign, ARGUMENT, RefusedTest::rich, x -> x.setUnits(kind, 1));
                refused("12 no such kind, by 2: " + sign, ARGUMENT, RefusedTest::rich, x -> x.setUnits(kind, 2));
                refused("13 no such kind: " + sign, ARGUMENT, RefusedTest::rich, x -> x.setCycles(kind, 1));
                refused("48 no such kind: " + sign, ARGUMENT, RefusedTest::rich, x -> x.busyShare(kind));
            }
        }
        for (char kind : KINDS.toCharArray()) {
            for (int number : new int[] {0, -1, 6, LEAST, GREATEST}) {
                refused("12 " + kind + " out of range: " + number, ARGUMENT,
                        RefusedTest::rich, x -> x.setUnits(kind, number));
                refused("13 " + kind + " out of range: " + number, ARGUMENT,
                        RefusedTest::rich, x -> x.setCycles(kind, number));
            }
            refused("12 " + kind + " out of range: 5", ARGUMENT, RefusedTest::rich, x -> x.setUnits(kind, 5));
        }
        for (int units = 2; units <= 4; units++) {
            int told = units;
            refused("12 the channel in by " + units, UNSUPPORTED, RefusedTest::rich, x -> x.setUnits('<', told));
            refused("12 the channel out by " + units, UNSUPPORTED, RefusedTest::rich, x -> x.setUnits('>', told));
        }
    }

    private static void valuesOfTheProgram() {
        // Six values come out.
        for (int index : new int[] {-1, 6, 7, 192, LEAST, GREATEST}) {
            refused("15 no such value: " + index, INDEX, RefusedTest::rich, x -> x.output(index));
            refused("38 no such value: " + index, INDEX, RefusedTest::rich, x -> x.circuitOutput(index));
        }
        refused("15 none at all", INDEX, RefusedTest::empty, x -> x.output(0));
        refused("15 none by a program", INDEX, () -> Checks.of("a=1"), x -> x.output(0));
        refused("38 none at all", INDEX, RefusedTest::empty, x -> x.circuitOutput(0));
        refused("38 none by a circuit", INDEX, () -> Checks.of("a=1"), x -> x.circuitOutput(0));
        for (int sign = 0; sign < 128; sign++) {
            char register = (char) sign;
            if (register < 'a' || register > 'h') {
                refused("17 no such register: " + sign, ARGUMENT, RefusedTest::rich, x -> x.register(register));
            }
        }
        refused("17 a register far off", ARGUMENT, RefusedTest::rich, x -> x.register((char) (65536 - 256 + 'a')));
    }

    private static void nodesThatAreNot(String what, Making making, int node) {
        refused("20 no such node " + what, INDEX, making, x -> x.kindOf(node));
        refused("21 no such node " + what, INDEX, making, x -> x.statementOf(node));
        refused("23 no such node from which it comes " + what, INDEX, making, x -> x.weight(node, 0, 0));
        refused("23 no such node to which it goes " + what, INDEX, making, x -> x.weight(0, node, 0));
        refused("23 no such node for both " + what, INDEX, making, x -> x.weight(node, node, 1));
        refused("23 no such node, and no such distance " + what, INDEX, making, x -> x.weight(0, node, -1));
        refused("24 no such node " + what, INDEX, making, x -> x.soon(node));
        refused("25 no such node " + what, INDEX, making, x -> x.late(node));
        refused("26 no such node " + what, INDEX, making, x -> x.step(node));
        refused("34 no such node " + what, INDEX, making, x -> x.place(node));
    }

    private static void nodesAndEdges() {
        for (int node : new int[] {-1, 10, 11, 96, LEAST, GREATEST}) {
            nodesThatAreNot("" + node, RefusedTest::rich, node);
        }
        for (int node : new int[] {-1, 0, 1}) {
            nodesThatAreNot(node + " of none", RefusedTest::empty, node);
        }
        nodesThatAreNot("1 of one", () -> Checks.of("a=1"), 1);
        // The first node reads M, the second one adds: 0 gives 1 its operand in this turn, and nothing else.
        int[][] noEdges = {{0, 0, 0}, {0, 0, 1}, {0, 1, 1}, {0, 1, -1}, {0, 1, LEAST}, {0, 1, GREATEST}, {1, 0, 0},
            {1, 0, 1}, {0, 2, 0}};
        for (int[] none : noEdges) {
            refused("23 no such edge " + none[0] + " " + none[1] + " " + none[2], NO_ELEMENT,
                    RefusedTest::rich, x -> x.weight(none[0], none[1], none[2]));
        }
        refused("49 no nodes", ARITHMETIC, RefusedTest::empty, Schedulary::meanStep);
    }

    private static void processes() {
        for (int number : new int[] {-1, -2, 4, 5, 16, LEAST, GREATEST}) {
            refused("41 no such process: " + number, ARGUMENT, RefusedTest::rich, x -> x.action(number, 0, true));
            refused("41 no such channel to put: " + number, ARGUMENT, RefusedTest::rich, x -> x.action(0, number,
                    true));
            refused("41 no such channel to take: " + number, ARGUMENT,
                    RefusedTest::rich, x -> x.action(3, number, false));
            refused("41 neither: " + number, ARGUMENT, RefusedTest::rich, x -> x.action(number, number, false));
            refused("41 it has 16, and no such channel: " + number, ARGUMENT,
                    RefusedTest::withActions, x -> x.action(2, number, true));
            refused("42 no such channel: " + number, ARGUMENT, RefusedTest::rich, x -> x.setDepth(number, 1));
            refused("44 no such process: " + number, ARGUMENT, RefusedTest::rich, x -> x.waitsFor(number));
        }
        for (int channel = 0; channel < 4; channel++) {
            int told = channel;
            refused("41 it has 16, to put into " + told, STATE, RefusedTest::withActions, x -> x.action(2, told, true));
            refused("41 it has 16, to take from " + told, STATE, RefusedTest::withActions, x -> x.action(2, told,
                    false));
            for (int depth : new int[] {0, -1, 17, 18, LEAST, GREATEST}) {
                refused("42 " + told + " by " + depth, ARGUMENT, RefusedTest::rich, x -> x.setDepth(told, depth));
            }
        }
        refused("46 locked by 16, too", NO_ELEMENT, RefusedTest::rich, Schedulary::leastDepth);
        refused("46 one takes from none", NO_ELEMENT, () -> taking(0), Schedulary::leastDepth);
        refused("46 the last one takes from none", NO_ELEMENT, () -> taking(3), Schedulary::leastDepth);
    }

    private static Schedulary taking(int number) {
        Schedulary x = new Schedulary();
        x.action(number, number, false);
        return x;
    }

    public static void main(String[] args) {
        changesAreSeen();
        typing();
        adding();
        replacing();
        turnsBitsAndFactor();
        inputsAndMemories();
        unitsAndCycles();
        valuesOfTheProgram();
        nodesAndEdges();
        processes();
        CHECKS.end("RefusedTest");
    }
}
