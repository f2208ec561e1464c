/** Promises 1 to 18 with their Terms: what is least and greatest, one beyond, empty, full, and what wraps around. */
public final class ProgramLimitsTest {
    private static final Checks CHECKS = new Checks();
    private static final String SIGNS = "0123456789abcdefghilMN=[]+-*&|^<>";
    private static final String DIGITS = "0123456789";
    private static final String REGISTERS = "abcdefgh";
    private static final String OPERATIONS = "+-*&|^l";
    private static final String KINDS = "amgMN<>";
    private static final String LONGEST = "M[i+9]=N[i-9]*M[i+0]";

    private static void same(String what, Object got, Object due) {
        CHECKS.same(what, got, due);
    }

    private static Schedulary filled(int statements, String statement) {
        Schedulary x = new Schedulary();
        for (int number = 0; number < statements; number++) {
            Checks.typed(x, statement);
            x.add();
        }
        return x;
    }

    private static Schedulary withInputs(Schedulary x, int... values) {
        for (int value : values) {
            x.input(value);
        }
        return x;
    }

    private static void outputsAre(String what, Schedulary x, String due) {
        same(what, Checks.outputsOf(x), due);
        same(what + ", by the circuit", Checks.circuitOutputsOf(x), due);
    }

    // Promise 1, and what the Terms say is so at first.

    private static void aNewObjectHasNoStatementsInputsAndActions() {
        Schedulary x = new Schedulary();
        same("1 nodes", x.nodes(), 0);
        same("1 taken", x.taken(), 0);
        same("1 done", x.done(), 0);
        Checks.typed(x, "a=1");
        same("1 the first statement", x.add(), 1);
        same("1 the first input", x.input(7), 1);
        for (int process = 0; process < 4; process++) {
            same("1 the first action of " + process, x.action(process, 0, true), 1);
        }
        same("1 the buffer", new Schedulary().clear(), 0);
    }

    private static void atFirstThereAreEightTurnsAndBits() {
        same("T 8 turns at first", new Schedulary().setTurns(1), 8);
        outputsAre("T i from 0 on, 8 times", Checks.of(">=i"), "0 1 2 3 4 5 6 7");
        same("T 8 bits at first", new Schedulary().setBits(1), 8);
        outputsAre("T 8 bits", turned(Checks.of("a=99*3", ">=a", "b=0-1", ">=b"), 1), "41 255");
    }

    private static Schedulary turned(Schedulary x, int turns) {
        x.setTurns(turns);
        return x;
    }

    private static void atFirstTheFactorUnitsCyclesAndDepthsAreOne() {
        Schedulary x = Checks.of("a=1", "b=2");
        same("T the factor 1 at first", x.nodes(), 2);
        same("T 7 turns are divided by the factor at first", x.setTurns(7), 8);
        for (char kind : KINDS.toCharArray()) {
            same("T 1 unit at first: " + kind, x.setUnits(kind, 1), 1);
            same("T 1 cycle at first: " + kind, x.setCycles(kind, 1), 1);
        }
        for (int channel = 0; channel < 4; channel++) {
            same("T the depth 1 at first: " + channel, x.setDepth(channel, 1), 1);
        }
    }

    private static void atFirstRegistersAndMemoriesHaveNothing() {
        for (char register : REGISTERS.toCharArray()) {
            same("T without statements " + register, new Schedulary().register(register), 0);
            Schedulary x = turned(Checks.of(">=" + register, register + "=7"), 2);
            outputsAre("T 0 at first: " + register, x, "0 7");
        }
        for (int place = 0; place < 16; place++) {
            same("T 0 at first: M " + place, new Schedulary().setMemory('M', place, 7), 0);
            same("T 0 at first: N " + place, new Schedulary().setMemory('N', place, 7), 0);
            same("T has 0 at first: M " + place, new Schedulary().memoryAt('M', place), 0);
            same("T has 0 at first: N " + place, new Schedulary().circuitMemory('N', place), 0);
        }
    }

    // Promises 2 and 3: the buffer.

    private static void eachSignIsTyped() {
        Schedulary x = new Schedulary();
        for (int place = 0; place < 24; place++) {
            same("2 type " + SIGNS.charAt(place), x.type(SIGNS.charAt(place)), place + 1);
        }
        same("3 24 were there", x.clear(), 24);
        for (int place = 24; place < SIGNS.length(); place++) {
            same("2 type " + SIGNS.charAt(place), x.type(SIGNS.charAt(place)), place - 23);
        }
        same("3 the rest was there", x.clear(), SIGNS.length() - 24);
        same("3 nothing was there", x.clear(), 0);
        same("2 one is there then", x.type('0'), 1);
        same("3 one was there", x.clear(), 1);
    }

    private static void aFullBufferIsNoStatement() {
        Schedulary x = new Schedulary();
        Checks.typed(x, LONGEST + "[]]]");
        same("4 fault of 24 signs", x.fault(), 20);
        same("3 24 signs stay", x.clear(), 24);
        Checks.typed(x, "aaaaaaaaaaaaaaaaaaaaaaaa");
        same("4 fault of 24 letters", x.fault(), 1);
    }

    // Promise 4: each place of a statement with each sign.

    /** Behind these signs one of the first row makes a statement, one of the second row leaves it too short. */
    private static void followers(String signs, String ending, String goingOn) {
        for (char sign : SIGNS.toCharArray()) {
            Schedulary x = new Schedulary();
            Checks.typed(x, signs + sign);
            int due = signs.length();
            if (ending.indexOf(sign) >= 0) {
                due = -1;
            } else if (goingOn.indexOf(sign) >= 0) {
                due = signs.length() + 1;
            }
            same("4 fault of " + signs + sign, x.fault(), due);
            same("4 fault again", x.fault(), due);
            same("4 the buffer stays", x.clear(), signs.length() + 1);
        }
    }

    private static void aTargetIsARegisterAMemoryOrTheChannelOut() {
        followers("", "", REGISTERS + "MN>");
        followers("a", "", "=");
        followers("h", "", "=");
        followers(">", "", "=");
        followers("M", "", "[");
        followers("N", "", "[");
        followers("M[i]", "", "=");
    }

    private static void anOperandIsOneOfFive() {
        String whole = REGISTERS + DIGITS + "i<";
        followers("a=", whole, "MN");
        followers(">=", whole, "MN");
        followers("N[i]=", whole, "MN");
        followers("a=b+", whole, "MN");
        followers("a=7l", whole, "MN");
        followers("a=M[0]*", whole, "MN");
    }

    private static void anOperationIsOneOfSeven() {
        followers("a=b", "", OPERATIONS);
        followers("a=i", "", OPERATIONS);
        followers("a=<", "", OPERATIONS);
        followers("a=N[i]", "", OPERATIONS);
    }

    private static void aNumberHasOneOrTwoDigits() {
        followers("a=0", DIGITS, OPERATIONS);
        followers("a=9", DIGITS, OPERATIONS);
        followers("a=00", "", OPERATIONS);
        followers("a=99", "", OPERATIONS);
        followers("a=b+0", DIGITS, "");
        followers("a=b+99", "", "");
    }

    private static void anIndexIsOneOfThree() {
        followers("M[", "", DIGITS + "i");
        followers("N[i", "", "+-]");
        followers("M[i+", "", DIGITS);
        followers("N[i-", "", DIGITS);
        followers("M[i+9", "", "]");
        followers("N[i-0", "", "]");
        followers("M[0", "", DIGITS + "]");
        followers("N[99", "", "]");
        followers("a=M[", "", DIGITS + "i");
        followers("a=N[i", "]", "+-");
        followers("a=M[i+", "", DIGITS);
        followers("a=N[i+9", "]", "");
        followers("a=M[9", "]", DIGITS);
        followers("a=N[00", "]", "");
        followers("a=b+M[i-9", "]", "");
        followers("a=b+N[99", "]", "");
    }

    private static void behindAWholeStatementThereIsNothing() {
        followers("a=b+c", "", "");
        followers("a=b+i", "", "");
        followers("a=b-<", "", "");
        followers("a=b*M[0]", "", "");
        followers(LONGEST, "", "");
    }

    private static void faultIsTheLengthIfItEndsTooEarly() {
        same("4 fault of nothing", new Schedulary().fault(), 0);
        Schedulary x = new Schedulary();
        for (int length = 0; length < LONGEST.length(); length++) {
            same("4 fault of the first " + length, x.fault(), length == 13 ? -1 : length);
            x.type(LONGEST.charAt(length));
        }
        same("4 the longest statement", x.fault(), -1);
    }

    // Promises 5 and 6: statements.

    private static void theShortestAndTheLongestStatementAreAdded() {
        for (String statement : new String[] {"a=0", LONGEST, "M[99]=N[00]lM[i-9]"}) {
            Schedulary x = new Schedulary();
            Checks.typed(x, statement);
            same("5 add " + statement, x.add(), 1);
            same("5 the buffer is empty then", x.clear(), 0);
        }
    }

    private static void statementsAreUpToTwelve() {
        Schedulary x = new Schedulary();
        for (int statement = 0; statement < 12; statement++) {
            Checks.typed(x, ">=" + statement);
            same("5 how many statements there are", x.add(), statement + 1);
        }
        outputsAre("T done in their order", turned(x, 1), "0 1 2 3 4 5 6 7 8 9 10 11");
        same("5 nodes of 12", x.nodes(), 12);
    }

    private static void aBodyHasUpTo24Statements() {
        for (int factor = 1; factor <= 4; factor++) {
            int most = Math.min(12, 24 / factor);
            Schedulary x = new Schedulary();
            x.setTurns(12);
            x.unroll(factor);
            for (int statement = 1; statement <= most; statement++) {
                Checks.typed(x, "a=1");
                same("5 add by " + factor, x.add(), statement);
            }
            same("5 nodes by " + factor, x.nodes(), most * factor);
            Checks.typed(x, "a=1");
            CHECKS.throwing("5 one more by " + factor, IllegalStateException.class, x::add);
            same("5 the last one of the body by " + factor, x.statementOf(most * factor - 1), most * factor - 1);
        }
    }

    private static void theFirstAndTheLastStatementAreReplaced() {
        Schedulary x = turned(filled(12, ">=5"), 1);
        Checks.typed(x, ">=<+<");
        same("6 replace the first one", x.replace(0), 15);
        same("6 the buffer is empty then", x.clear(), 0);
        Checks.typed(x, "a=b");
        same("6 replace the last one", x.replace(11), 15);
        same("6 how many nodes a body has", x.nodes(), 15);
        outputsAre("6 the others stay", withInputs(x, 3, 4), "7 5 5 5 5 5 5 5 5 5 5");
        Checks.typed(x, ">=5");
        same("6 replace what was replaced", x.replace(0), 12);
        Schedulary y = filled(6, "a=1");
        y.unroll(4);
        Checks.typed(y, LONGEST);
        same("6 replace one in four copies", y.replace(5), 4 * 9);
    }

    // Promises 7 and 9: turns and the factor.

    private static void turnsAreOneToSixteen() {
        Schedulary x = Checks.of(">=i", "M[i]=1");
        int before = 8;
        for (int turns = 1; turns <= 16; turns++) {
            same("7 how many it had", x.setTurns(turns), before);
            same("7 outputs of " + turns, x.outputs(), turns);
            same("7 the last one of " + turns, x.output(turns - 1), turns - 1);
            same("7 the circuit's last one of " + turns, x.circuitOutput(turns - 1), turns - 1);
            same("7 the last place of " + turns, x.memoryAt('M', turns - 1), 1);
            same("7 no place behind " + turns, turns < 16 ? x.memoryAt('M', turns) : 0, 0);
            before = turns;
        }
        same("7 the same again", x.setTurns(16), 16);
    }

    private static void aFactorDividesTheTurns() {
        for (int factor = 1; factor <= 4; factor++) {
            for (int turns = factor; turns <= 16; turns += factor) {
                Schedulary x = turned(Checks.of(">=i"), turns);
                same("9 " + factor + " divides " + turns, x.unroll(factor), factor);
                same("9 all turns are done", x.circuitOutputs(), turns);
                same("9 the last one", x.circuitOutput(turns - 1), turns - 1);
                same("9 turns of the body", x.oneByOne(), turns);
                Schedulary y = turned(Checks.of(">=i"), 12);
                y.unroll(factor);
                same("7 " + turns + " are divided by " + factor, y.setTurns(turns), 12);
            }
        }
    }

    private static void theFactorGoesDownAgain() {
        Schedulary x = Checks.of("a=a+i", ">=a");
        x.setTurns(12);
        for (int factor : new int[] {4, 3, 2, 1, 1, 4}) {
            same("9 nodes by " + factor, x.unroll(factor), 2 * factor);
            outputsAre("9 values by " + factor, x, "0 1 3 6 10 15 21 28 36 45 55 66");
        }
        Schedulary y = filled(12, "a=1");
        same("9 24 statements", y.unroll(2), 24);
        Schedulary z = turned(filled(8, "a=1"), 9);
        same("9 24 statements by 3", z.unroll(3), 24);
        same("9 24 statements by 4", filled(6, "a=1").unroll(4), 24);
        same("9 without statements", new Schedulary().unroll(4), 0);
    }

    // Promise 8: bits, and what goes round by them.

    private static void valuesGoRoundByTheirBits() {
        int before = 8;
        Schedulary x = withInputs(turned(Checks.of("a=<", "b=a+1", "c=0-1", "d=a*a", "e=99", "f=M[15]", "g=c-a",
                "h=i", "N[0]=bla", "N[1]=a^b", "N[2]=N[3]", "N[4]=0-a"), 1), 65535);
        x.setMemory('M', 15, 65535);
        x.setMemory('N', 3, 32769);
        x.setMemory('N', 5, 65534);
        for (int bits = 1; bits <= 16; bits++) {
            int most = (1 << bits) - 1;
            same("8 how many bits they had", x.setBits(bits), before);
            same("8 an input of " + bits, x.register('a'), most);
            same("8 one more than the greatest of " + bits, x.register('b'), 0);
            same("8 less than 0 of " + bits, x.register('c'), most);
            same("8 the greatest product of " + bits, x.register('d'), 1);
            same("8 a number of " + bits, x.register('e'), 99 & most);
            same("8 a memory told of " + bits, x.register('f'), most);
            same("8 no difference of " + bits, x.register('g'), 0);
            same("8 less of " + bits, x.memoryAt('N', 0), 1);
            same("8 other signs of " + bits, x.memoryAt('N', 1), most);
            same("8 moved of " + bits, x.memoryAt('N', 2), bits == 16 ? 32769 : 1);
            same("8 the greatest less than 0 of " + bits, x.memoryAt('N', 4), 1);
            same("8 what nobody writes of " + bits, x.memoryAt('N', 5), most - 1);
            same("8 the circuit's of " + bits, x.circuitMemory('N', 5), most - 1);
            CHECKS.holds("8 the circuit of " + bits, x.isSame());
            before = bits;
        }
        same("8 the same again", x.setBits(16), 16);
    }

    private static void bitsCanGoUpAgain() {
        Schedulary x = withInputs(turned(Checks.of(">=<", ">=M[0]"), 1), 43690);
        x.setMemory('M', 0, 21845);
        x.setBits(1);
        outputsAre("T by 1 bit", x, "0 1");
        x.setBits(16);
        outputsAre("T from what was told", x, "43690 21845");
        same("T told, not taken by bits", x.setMemory('M', 0, 7), 21845);
    }

    private static void iIsTakenByBitsAsAnOperandAlone() {
        Schedulary x = turned(Checks.of("M[i]=i", ">=i+1"), 16);
        x.setBits(2);
        for (int place = 0; place < 16; place++) {
            same("T the index takes i as it is: " + place, x.memoryAt('M', place), place % 4);
            same("T the circuit's index does: " + place, x.circuitMemory('M', place), place % 4);
            same("T i as an operand: " + place, x.output(place), (place + 1) % 4);
        }
    }

    private static void lessIsOneOrNothing() {
        outputsAre("T less", turned(Checks.of(">=1l2", ">=2l2", ">=3l2", ">=0l0", ">=0l1"), 1), "1 0 0 0 1");
        Schedulary x = turned(Checks.of("a=0-1", ">=al1", ">=1la"), 1);
        outputsAre("T values are never less than 0", x, "0 1");
        x.setBits(1);
        outputsAre("T by 1 bit", x, "0 0");
        Schedulary y = turned(Checks.of(">=16l1"), 1);
        y.setBits(4);
        outputsAre("T a number is taken by bits ahead of it", y, "1");
    }

    private static void signsTogether() {
        outputsAre("T and, or, either", turned(Checks.of(">=12&10", ">=12|10", ">=12^10", ">=0&99", ">=0|99",
                ">=99^99"), 1),
                "8 14 6 0 99 0");
    }

    // Promise 10: inputs.

    private static void inputsAreUpTo32() {
        Schedulary x = turned(Checks.of("a=<+<", ">=a"), 16);
        x.setBits(16);
        for (int input = 0; input < 32; input++) {
            same("10 how many inputs there are", x.input(input), input + 1);
        }
        outputsAre("10 one behind the other", x, "1 5 9 13 17 21 25 29 33 37 41 45 49 53 57 61");
        same("18 all taken", x.taken(), 32);
    }

    private static void theLeastAndTheGreatestInput() {
        Schedulary x = withInputs(turned(Checks.of(">=<"), 3), 0, 65535, 1);
        outputsAre("10 by 8 bits", x, "0 255 1");
        x.setBits(16);
        outputsAre("10 by 16 bits", x, "0 65535 1");
    }

    private static void behindTheLastInputThereIsNothing() {
        outputsAre("T no input at all", turned(Checks.of(">=<"), 2), "0 0");
        Schedulary x = withInputs(turned(Checks.of(">=<-<"), 2), 9, 4, 5);
        outputsAre("T 0 behind the last one", x, "5 5");
        same("18 those behind the last one aside", x.taken(), 3);
    }

    // Promise 11 and the Terms: memories.

    private static void memoriesHaveSixteenPlaces() {
        Schedulary x = new Schedulary();
        for (int place = 0; place < 16; place++) {
            same("11 M 0 before", x.setMemory('M', place, place), 0);
            same("11 N 0 before", x.setMemory('N', place, 100 + place), 0);
        }
        for (int place = 0; place < 16; place++) {
            same("16 M " + place, x.memoryAt('M', place), place);
            same("16 N " + place, x.memoryAt('N', place), 100 + place);
            same("39 M " + place, x.circuitMemory('M', place), place);
            same("39 N " + place, x.circuitMemory('N', place), 100 + place);
            same("11 what was told of M " + place, x.setMemory('M', place, 0), place);
            same("11 what was told of N " + place, x.setMemory('N', place, 0), 100 + place);
        }
    }

    private static void theLeastAndTheGreatestValueTold() {
        Schedulary x = new Schedulary();
        x.setBits(16);
        same("11 the greatest value", x.setMemory('M', 0, 65535), 0);
        same("16 the greatest value", x.memoryAt('M', 0), 65535);
        same("11 the greatest value was told", x.setMemory('M', 0, 0), 65535);
        same("16 the least value", x.memoryAt('M', 0), 0);
        same("11 the least value was told", x.setMemory('M', 0, 1), 0);
    }

    private static void aPlaceOutsideReadsAsNothing() {
        Schedulary x = turned(Checks.of(">=M[0]", ">=M[15]", ">=M[16]", ">=M[99]", ">=N[0]", ">=N[i-1]", ">=N[i+9]"),
                1);
        for (int place = 0; place < 16; place++) {
            x.setMemory('M', place, 50 + place);
            x.setMemory('N', place, 70 + place);
        }
        outputsAre("T places at the ends", x, "50 65 0 0 70 0 79");
        Schedulary y = turned(Checks.of(">=M[i-9]", ">=M[i+1]", ">=M[i]"), 16);
        y.setMemory('M', 0, 8);
        y.setMemory('M', 15, 9);
        // M[i-9] has place 0 in turn 9, M[i+1] place 15 in turn 14 and 16 in turn 15.
        same("T -9", y.output(0), 0);
        same("T -1", y.output(3 * 8), 0);
        same("T 0", y.output(3 * 9), 8);
        same("T 15", y.output(3 * 14 + 1), 9);
        same("T 16", y.output(3 * 15 + 1), 0);
        same("T 0 in turn 0", y.output(2), 8);
        same("T 15 in turn 15", y.output(3 * 15 + 2), 9);
        CHECKS.holds("T by the circuit", y.isSame());
    }

    private static void aPlaceOutsideTakesNothing() {
        Schedulary x = Checks.of("M[i-9]=1", "M[i+9]=2", "N[16]=3", "N[99]=4", "N[15]=5", "M[00]=6");
        x.setTurns(9);
        // In 9 turns the first one has -9 to -1, the second one 9 to 17.
        for (int place = 0; place < 16; place++) {
            int due = place == 0 ? 6 : place < 9 ? 0 : 2;
            same("T M " + place, x.memoryAt('M', place), due);
            same("T the circuit's M " + place, x.circuitMemory('M', place), due);
            same("T N " + place, x.memoryAt('N', place), place == 15 ? 5 : 0);
            same("T the circuit's N " + place, x.circuitMemory('N', place), place == 15 ? 5 : 0);
        }
        x.setTurns(10);
        same("T M 0 by one turn more", x.memoryAt('M', 0), 6);
        Checks.typed(x, "a=1");
        x.replace(5);
        same("T M 0 in turn 9", x.memoryAt('M', 0), 1);
    }

    // Promises 12 and 13: units and cycles.

    private static void unitsAreOneToFour() {
        Schedulary x = new Schedulary();
        for (char kind : "amgMN".toCharArray()) {
            int before = 1;
            for (int units : new int[] {2, 3, 4, 4, 1}) {
                same("12 units of " + kind, x.setUnits(kind, units), before);
                before = units;
            }
        }
        same("12 one unit of the channel in", x.setUnits('<', 1), 1);
        same("12 one unit of the channel out", x.setUnits('>', 1), 1);
    }

    private static void unitsAreOfTheirKindAlone() {
        String[] statements = {"a=a+i", "a=i*2", "a=i", "M[0]=1", "N[0]=1"};
        for (int kind = 0; kind < 5; kind++) {
            Schedulary x = filled(4, statements[kind]);
            for (int other = 0; other < 5; other++) {
                if (other != kind) {
                    x.setUnits(KINDS.charAt(other), 4);
                }
            }
            same("12 four by one unit: " + KINDS.charAt(kind), x.byUnits(), 4);
            x.setUnits(KINDS.charAt(kind), 4);
            same("12 four by four units: " + KINDS.charAt(kind), x.byUnits(), 1);
        }
    }

    private static void cyclesAreOneToFive() {
        String[] statements = {"a=1+1", "a=i*2", "a=i", "M[0]=1", "N[0]=1", "a=<", ">=1"};
        for (int kind = 0; kind < 7; kind++) {
            Schedulary x = turned(Checks.of(statements[kind]), 1);
            int before = 1;
            for (int cycles : new int[] {2, 3, 4, 5, 5, 1}) {
                same("13 cycles of " + KINDS.charAt(kind), x.setCycles(KINDS.charAt(kind), cycles), before);
                same("13 the length by " + cycles, x.length(), cycles);
                same("13 the circuit by " + cycles, x.cycles(), cycles);
                before = cycles;
            }
            for (int other = 0; other < 7; other++) {
                x.setCycles(KINDS.charAt(other), other == kind ? 1 : 5);
            }
            same("13 of its kind alone: " + KINDS.charAt(kind), x.length(), 1);
        }
    }

    // Promises 14 to 18: what comes of the program.

    private static void outputsAreUpTo192() {
        Schedulary x = turned(filled(12, ">=i"), 16);
        same("14 the most values", x.outputs(), 192);
        same("15 the first one", x.output(0), 0);
        same("15 the last one of turn 0", x.output(11), 0);
        same("15 the first one of turn 1", x.output(12), 1);
        same("15 the last one", x.output(191), 15);
        CHECKS.throwing("15 one behind it", IndexOutOfBoundsException.class, () -> x.output(192));
        same("37 the most values", x.circuitOutputs(), 192);
        same("38 the last one", x.circuitOutput(191), 15);
        CHECKS.throwing("38 one behind it", IndexOutOfBoundsException.class, () -> x.circuitOutput(192));
        same("14 none", Checks.of("a=1").outputs(), 0);
        same("14 without statements", new Schedulary().outputs(), 0);
    }

    private static void eachRegisterHasItsOwn() {
        Schedulary x = new Schedulary();
        for (char register : REGISTERS.toCharArray()) {
            Checks.typed(x, register + "=" + (register - 'a' + 1));
            x.add();
        }
        for (char register : REGISTERS.toCharArray()) {
            same("17 in the end " + register, x.register(register), register - 'a' + 1);
        }
    }

    private static void inputsTaken() {
        same("18 without statements", withInputs(new Schedulary(), 1, 2).taken(), 0);
        same("18 none is read", withInputs(Checks.of("a=1"), 1, 2).taken(), 0);
        same("18 none is there", Checks.of("a=<").taken(), 0);
        Schedulary x = turned(withInputs(Checks.of("a=<"), 1, 2, 3), 1);
        for (int turns = 1; turns <= 5; turns++) {
            x.setTurns(turns);
            same("18 taken in turns " + turns, x.taken(), Math.min(turns, 3));
        }
        Schedulary y = turned(filled(12, "a=<+<"), 16);
        for (int input = 1; input <= 32; input++) {
            y.input(input);
        }
        same("18 all 32 by 384 that read", y.taken(), 32);
    }

    // Terms: a statement reads, does, then writes.

    private static void aStatementReadsAheadOfWriting() {
        outputsAre("T the first operand first", withInputs(turned(Checks.of(">=<-<"), 1), 9, 4), "5");
        Schedulary x = turned(Checks.of("M[0]=M[0]+M[0]", ">=M[0]", "a=a*2", ">=a", "a=a+1"), 3);
        x.setMemory('M', 0, 1);
        outputsAre("T operands as they were", x, "2 0 4 2 8 6");
        outputsAre("T the last one stays", turned(Checks.of("a=1", "a=2", ">=a", "a=3"), 2), "2 2");
    }

    // The object is used for 512 calls.

    private static void the512thCallAnswers() {
        Schedulary x = Checks.of("a=a+i");
        for (int call = 7; call < 511; call++) {
            x.setBits(1 + call % 16);
        }
        same("T the 512th call", x.register('a'), 28 & (1 << 1 + 510 % 16) - 1);
    }

    public static void main(String[] args) {
        aNewObjectHasNoStatementsInputsAndActions();
        atFirstThereAreEightTurnsAndBits();
        atFirstTheFactorUnitsCyclesAndDepthsAreOne();
        atFirstRegistersAndMemoriesHaveNothing();
        eachSignIsTyped();
        aFullBufferIsNoStatement();
        aTargetIsARegisterAMemoryOrTheChannelOut();
        anOperandIsOneOfFive();
        anOperationIsOneOfSeven();
        aNumberHasOneOrTwoDigits();
        anIndexIsOneOfThree();
        behindAWholeStatementThereIsNothing();
        faultIsTheLengthIfItEndsTooEarly();
        theShortestAndTheLongestStatementAreAdded();
        statementsAreUpToTwelve();
        aBodyHasUpTo24Statements();
        theFirstAndTheLastStatementAreReplaced();
        turnsAreOneToSixteen();
        aFactorDividesTheTurns();
        theFactorGoesDownAgain();
        valuesGoRoundByTheirBits();
        bitsCanGoUpAgain();
        iIsTakenByBitsAsAnOperandAlone();
        lessIsOneOrNothing();
        signsTogether();
        inputsAreUpTo32();
        theLeastAndTheGreatestInput();
        behindTheLastInputThereIsNothing();
        memoriesHaveSixteenPlaces();
        theLeastAndTheGreatestValueTold();
        aPlaceOutsideReadsAsNothing();
        aPlaceOutsideTakesNothing();
        unitsAreOneToFour();
        unitsAreOfTheirKindAlone();
        cyclesAreOneToFive();
        outputsAreUpTo192();
        eachRegisterHasItsOwn();
        inputsTaken();
        aStatementReadsAheadOfWriting();
        the512thCallAnswers();
        CHECKS.end("ProgramLimitsTest");
    }
}
