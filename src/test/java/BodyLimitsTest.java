/** Promises 19 to 29 with their Terms: what is least and greatest, one beyond, empty, full, and what goes round. */
public final class BodyLimitsTest {
    private static final Checks CHECKS = new Checks();
    private static final int LEAST = Integer.MIN_VALUE;
    private static final int GREATEST = Integer.MAX_VALUE;

    private static void same(String what, Object got, Object due) {
        CHECKS.same(what, got, due);
    }

    private static Schedulary with(Schedulary x, String kinds, int... cycles) {
        for (int kind = 0; kind < cycles.length; kind++) {
            x.setCycles(kinds.charAt(kind), cycles[kind]);
        }
        return x;
    }

    private static Schedulary units(Schedulary x, String kinds, int... units) {
        for (int kind = 0; kind < units.length; kind++) {
            x.setUnits(kinds.charAt(kind), units[kind]);
        }
        return x;
    }

    private static Schedulary unrolled(Schedulary x, int turns, int factor) {
        x.setTurns(turns);
        x.unroll(factor);
        return x;
    }

    private static Schedulary filled(int statements, String statement) {
        String[] all = new String[statements];
        java.util.Arrays.fill(all, statement);
        return Checks.of(all);
    }

    private static void edges(String what, Schedulary x, String due) {
        CHECKS.edgesAre(what, x, due);
    }

    private static void steps(String what, Schedulary x, String soon, String late, String lists, int length) {
        same("24 " + what, Checks.each(x, x::soon), soon);
        same("25 " + what, Checks.each(x, x::late), late);
        same("26 " + what, Checks.each(x, x::step), lists);
        same("27 " + what, x.length(), length);
    }

    // Promises 19 to 21: nodes.

    private static void aStatementHasOneToFourNodes() {
        String[] statements = {"a=b", "a=9", "a=i", "a=<", "a=M[0]", "a=N[i]", "M[0]=a", "N[i]=9", "M[i]=i", ">=a",
            ">=9",
            ">=i", "a=b+c", "a=9*i", "a=b&b", ">=<", "M[0]=N[0]", "a=<+b", "a=b*N[i]", ">=a+b", "M[i]=a^1", "a=<l<",
            "a=M[0]-N[0]", ">=<|b", "N[0]=b-M[0]", ">=<+<", "M[0]=M[0]*M[0]", "N[0]=M[i]&<"};
        String[] kinds = {"g", "g", "g", "<", "M", "N", "M", "N", "M", ">", ">",
            ">", "a", "m", "g", "<>", "NM", "<a", "Nm", "a>", "gM", "<<a",
            "MNa", "<g>", "MaN", "<<a>", "MMmM", "M<gN"};
        for (int row = 0; row < statements.length; row++) {
            Schedulary x = Checks.of(statements[row]);
            same("19 " + statements[row], x.nodes(), kinds[row].length());
            same("20 " + statements[row], Checks.each(x, x::kindOf).replace(" ", ""), kinds[row]);
            same("21 " + statements[row], Checks.each(x, x::statementOf), "0 0 0 0".substring(0,
                    2 * kinds[row].length() - 1));
        }
    }

    private static void nodesAreUpTo96() {
        Schedulary x = filled(12, "M[0]=<*N[0]");
        same("19 four of each", x.nodes(), 48);
        same("9 four of each in two copies", x.unroll(2), 96);
        same("19 the most", x.nodes(), 96);
        same("20 the first", x.kindOf(0), '<');
        same("20 the last", x.kindOf(95), 'M');
        same("21 the first", x.statementOf(0), 0);
        same("21 the last of statement 0", x.statementOf(3), 0);
        same("21 the first of statement 1", x.statementOf(4), 1);
        same("21 the last of the first copy", x.statementOf(47), 11);
        same("21 the first of the second copy", x.statementOf(48), 12);
        same("21 the last", x.statementOf(95), 23);
        for (int node : new int[] {96, -1}) {
            CHECKS.throwing("20 " + node, IndexOutOfBoundsException.class, () -> x.kindOf(node));
            CHECKS.throwing("21 " + node, IndexOutOfBoundsException.class, () -> x.statementOf(node));
            CHECKS.throwing("26 " + node, IndexOutOfBoundsException.class, () -> x.step(node));
            CHECKS.throwing("34 " + node, IndexOutOfBoundsException.class, () -> x.place(node));
        }
        CHECKS.holds("50 the most", x.isSound());
    }

    private static void withoutStatementsThereIsNothing() {
        Schedulary x = new Schedulary();
        same("19 none", x.nodes(), 0);
        same("22 none", x.edges(), 0);
        same("27 none", x.length(), 0);
        same("28 none", x.inStep(0), 0);
        same("28 none at -1", x.inStep(-1), 0);
        same("29 none", x.waiting(), 0);
    }

    // Terms and promises 22 and 23: edges within a statement.

    private static void whatGivesAnOperandIsOneToFiveCyclesAhead() {
        for (int cycles = 1; cycles <= 5; cycles++) {
            edges("within by " + cycles, with(Checks.of("N[i]=M[i]+b"), "Ma", cycles, 6 - cycles),
                    "0>1@0=" + cycles + " 1>2@0=" + (6 - cycles));
            edges("moved within by " + cycles, with(Checks.of(">=<"), "<", cycles), "0>1@0=" + cycles);
        }
        edges("one node", Checks.of(">=i"), "");
        edges("one node that nobody uses", Checks.of("a=b"), "");
    }

    // Edges by registers.

    private static void registersGoRound() {
        edges("made in the turn ahead", Checks.of(">=a", "a=1"), "0>1@0=0 1>0@1=1");
        edges("made in this turn", Checks.of("a=1", ">=a"), "0>1@0=1 1>0@1=0");
        edges("made by itself in the turn ahead", Checks.of("a=a+a"), "0>0@1=1");
        edges("made by itself, moved", with(Checks.of("h=h"), "g", 5), "0>0@1=5");
        edges("never made", Checks.of(">=a", ">=h+a"), "0>2@0=1 1>2@0=1 2>0@1=1");
        edges("never used", with(Checks.of("a=1"), "g", 5), "");
        edges("another register", Checks.of("a=b", "M[0]=a", "c=1"), "0>1@0=1 1>0@1=0");
        edges("a to h alike", Checks.of("a=1", "h=2", ">=h", "N[0]=a"), "0>3@0=1 3>0@1=0 1>2@0=1 2>1@1=0");
    }

    private static void theLastMakerAheadAndTheNextBehind() {
        // Two makers, and users ahead of both, between them and behind them.
        Schedulary x = Checks.of("M[0]=a", "a=1", "N[0]=a", "a=<", ">=a");
        edges("two makers", x, "3>0@1=1 0>1@0=0 1>2@0=1 2>3@0=0 3>4@0=1 4>1@1=0 1>3@0=1 3>1@1=1");
        with(x, "MgN<>", 2, 3, 4, 5, 5);
        edges("two makers by many cycles", x,
                "3>0@1=5 0>1@0=-2 1>2@0=3 2>3@0=-4 3>4@0=5 4>1@1=-2 1>3@0=-1 3>1@1=3");
        edges("three makers", Checks.of("a=1", "a=2", "a=3"), "0>1@0=1 1>2@0=1 2>0@1=1");
        edges("a user of two", Checks.of("a=1", "b=2", "c=a-b"), "0>2@0=1 2>0@1=0 1>2@0=1 2>1@1=0");
        edges("one user of the same twice", Checks.of("a=1", "c=a-a"), "0>1@0=1 1>0@1=0");
    }

    private static void weightsByRegistersAreLeastAndGreatest() {
        edges("a user of a slow maker", with(Checks.of(">=a", "a=b*c"), "m", 5), "0>1@0=-4 1>0@1=5");
        edges("a slow maker, a fast one", with(Checks.of("a=b*c", "a=1"), "mg", 5, 1), "0>1@0=5 1>0@1=-3");
        edges("both are slow", with(Checks.of("a=b*c", "a=1"), "mg", 5, 5), "0>1@0=1 1>0@1=1");
    }

    private static void theGreaterWeightCounts() {
        // The second node uses what the first one makes, and makes it anew: going round, both weights are for 1>0.
        edges("user and maker", with(Checks.of("a=1", "a=a*2"), "gm", 2, 5), "0>1@0=2 1>0@1=4");
        edges("user and slower maker", with(Checks.of("a=1", "a=a*2"), "gm", 5, 2), "0>1@0=5 1>0@1=-2");
        // Within the statement L, by the memory 1 less L.
        edges("within and by a memory", with(Checks.of("M[i]=M[i]"), "M", 5), "0>1@0=5");
        edges("within and by a number", with(Checks.of("M[9]=M[9]"), "M", 5), "0>1@0=5 1>0@1=5");
        edges("count of both", with(Checks.of("M[9]=M[9]*M[9]"), "M", 1),
                "0>2@0=1 1>2@0=1 2>3@0=1 0>3@0=0 1>3@0=0 3>0@1=1 3>1@1=1");
    }

    // Edges by memories.

    private static void memoriesJoinIfOneWrites() {
        edges("both read", Checks.of("a=M[0]", "b=M[0]"), "");
        edges("both read at i", Checks.of("a=N[i]", "b=N[i]"), "");
        edges("one writes", with(Checks.of("N[0]=1", "b=N[0]"), "N", 5), "0>1@0=5 1>0@1=-4");
        edges("the other one writes", with(Checks.of("b=N[0]", "N[0]=1"), "N", 5), "0>1@0=-4 1>0@1=5");
        edges("both write", with(Checks.of("N[0]=2", "N[0]=1"), "N", 5), "0>1@0=1 1>0@1=1");
        edges("one alone", Checks.of("M[0]=1"), "");
        edges("two memories", Checks.of("M[0]=1", "N[0]=1"), "");
    }

    private static void indexesWithIMeetZeroToEighteenTurnsLater() {
        for (int offset = 0; offset <= 9; offset++) {
            edges("writes then reads i", with(Checks.of("M[i+" + offset + "]=1", "a=M[i]"), "M", 3),
                    "0>1@" + offset + "=3");
            edges("writes then reads i-9", Checks.of("M[i+" + offset + "]=1", "a=M[i-9]"),
                    "0>1@" + (offset + 9) + "=1");
        }
        edges("reads, and one behind it writes later", with(Checks.of("a=M[i+9]", "M[i-9]=1"), "M", 3), "0>1@18=-2");
        edges("writes ahead", with(Checks.of("M[i-9]=1", "a=M[i+9]"), "M", 3), "1>0@18=-2");
        edges("both write", with(Checks.of("M[i-9]=1", "M[i+9]=2"), "M", 3), "1>0@18=1");
        edges("one turn later, ahead of it", Checks.of("a=M[i]", "M[i+1]=1"), "1>0@1=1");
        edges("one turn later, behind it", Checks.of("M[i+1]=1", "a=M[i]"), "0>1@1=1");
    }

    private static void noTurnsLaterOnlyBehind() {
        edges("the same place, read behind", Checks.of("M[i]=1", "a=M[i]"), "0>1@0=1");
        edges("the same place, read ahead", Checks.of("a=M[i]", "M[i]=1"), "0>1@0=0");
        edges("the same place, both write", Checks.of("M[i+0]=1", "M[i-0]=2"), "0>1@0=1");
        edges("the same place off i", Checks.of("a=M[i-5]", "M[i-5]=2"), "0>1@0=0");
    }

    private static void numbersMeetAtOnceOrOneTurnLater() {
        edges("the same number", Checks.of("M[15]=1", "M[15]=2"), "0>1@0=1 1>0@1=1");
        edges("0 ahead of it", Checks.of("M[5]=1", "M[05]=2"), "0>1@0=1 1>0@1=1");
        edges("outside", Checks.of("M[99]=1", "M[99]=2"), "0>1@0=1 1>0@1=1");
        edges("numbers one off", Checks.of("M[14]=1", "M[15]=2", "M[16]=3"), "");
        edges("a number and i", Checks.of("M[0]=1", "a=M[i]"), "0>1@0=1 1>0@1=0");
        edges("i and a number", Checks.of("a=M[i+9]", "M[0]=1"), "0>1@0=0 1>0@1=1");
        edges("a number in two copies", unrolled(Checks.of("M[0]=1"), 8, 2), "0>1@0=1 1>0@1=1");
        edges("i and a number in two copies", unrolled(Checks.of("M[i]=1", "a=M[7]"), 8, 2),
                "0>1@0=1 0>3@0=1 2>3@0=1 2>1@1=1 1>0@1=0 3>0@1=0 3>2@1=0 1>2@0=0 1>3@0=1 3>1@1=1");
    }

    private static void indexesMeetIfTheFactorDividesTheirDifference() {
        edges("i in copies", unrolled(Checks.of("M[i]=1"), 12, 4), "");
        edges("one off by 2", unrolled(Checks.of("M[i+1]=1", ">=M[i]"), 12, 2),
                "1>2@0=1 4>5@0=1 2>5@0=1 5>2@1=1 0>4@0=1 3>1@1=1");
        // Three off by 3: each copy meets its own, one turn of the body later.
        edges("three off by 3", unrolled(Checks.of("M[i+3]=1", "N[i]=M[i]"), 12, 3),
                "0>1@1=1 3>4@1=1 6>7@1=1 1>2@0=1 4>5@0=1 7>8@0=1");
        // The greatest difference by 4 is 20, of the copies 2 and 0, or 3 and 1; 16 that of 0 and 2, or 1 and 3.
        edges("18 off by 4", unrolled(Checks.of("M[i+9]=1", "N[i]=M[i-9]"), 12, 4),
                "6>1@5=1 9>4@5=1 0>7@4=1 3>10@4=1 1>2@0=1 4>5@0=1 7>8@0=1 10>11@0=1");
        edges("18 off by 3", unrolled(Checks.of("M[i+9]=1", "N[i]=M[i-9]"), 12, 3),
                "0>1@6=1 3>4@6=1 6>7@6=1 1>2@0=1 4>5@0=1 7>8@0=1");
    }

    // Edges by channels.

    private static void channelsGoRound() {
        edges("one alone", Checks.of("a=<"), "");
        edges("one alone puts", Checks.of(">=1"), "");
        edges("two", with(Checks.of("a=<", "b=<"), "<", 5), "0>1@0=1 1>0@1=1");
        edges("two put", with(Checks.of(">=1", ">=2"), ">", 5), "0>1@0=1 1>0@1=1");
        edges("three", Checks.of("a=<", "b=<", "c=<"), "0>1@0=1 1>2@0=1 2>0@1=1");
        edges("two channels", Checks.of("a=<", ">=1"), "");
        edges("one in two copies", unrolled(Checks.of(">=i"), 8, 2), "0>1@0=1 1>0@1=1");
        edges("one in four copies", unrolled(Checks.of(">=i"), 8, 4), "0>1@0=1 1>2@0=1 2>3@0=1 3>0@1=1");
    }

    private static void noOtherDistanceIsAnEdge() {
        Schedulary x = Checks.of("M[i+9]=1", "N[0]=M[i-9]");
        same("23 the greatest distance", x.weight(0, 1, 18), 1);
        same("23 no distance", x.weight(1, 2, 0), 1);
        for (int distance : new int[] {-18, -1, 0, 1, 17, 19, LEAST, GREATEST}) {
            CHECKS.throwing("23 distance " + distance, java.util.NoSuchElementException.class,
                    () -> x.weight(0, 1, distance));
        }
        CHECKS.throwing("23 the other way", java.util.NoSuchElementException.class, () -> x.weight(1, 0, 18));
    }

    private static void edgesAreUpToVeryMany() {
        // 72 nodes of one memory at one place: all pairs both ways but those that both read, and the two readers of a
        // statement to the node of the operation, and that to the one that writes.
        Schedulary x = filled(12, "M[0]=M[0]*M[0]");
        x.unroll(2);
        same("22 all pairs", x.edges(), 72 * 71 - 48 * 47 + 24 * 3);
        same("23 the first to the last", x.weight(0, 95, 0), 0);
        same("23 the last to the first", x.weight(95, 0, 1), 1);
        same("23 what writes last to what writes first", x.weight(95, 3, 1), 1);
        same("23 what writes first to what writes last", x.weight(3, 95, 0), 1);
        same("23 what writes to what reads in the end", x.weight(91, 93, 0), 1);
    }

    // Promises 24 to 28: steps.

    private static void stepsBeginAtNothing() {
        steps("one node", Checks.of("a=1"), "0", "0", "0", 1);
        steps("one slow node", with(Checks.of("a=1"), "g", 5), "0", "0", "0", 5);
        // 1 less L is less than nothing, but no step is.
        steps("ahead of a slow maker", with(Checks.of(">=a", "a=b*c"), "m", 5), "0 0", "4 0", "0 0", 5);
        steps("weight 0", Checks.of(">=a", "a=1"), "0 0", "0 0", "0 0", 1);
        steps("not ahead of what is behind", Checks.of("a=1", ">=a", "b=a*a"), "0 1 1", "0 1 1", "0 1 1", 2);
    }

    private static void lateIsBoundByTheLengthAsSoonAsPossible() {
        // By one unit the length is 5, as soon as possible it is 1: late steps are 0.
        steps("five by one unit", Checks.of("a=i+1", "b=i+2", "c=i+3", "d=i+4", "e=i+5"),
                "0 0 0 0 0", "0 0 0 0 0", "0 1 2 3 4", 5);
        steps("over at the length, not behind it", with(Checks.of("a=1", "b=i*2", "c=i+1"), "gma", 1, 5, 2),
                "0 0 0", "4 0 3", "0 0 0", 5);
    }

    private static void ofSeveralTheLowestNumber() {
        Schedulary x = Checks.of("a=i+1", "b=i+2", "c=i+3", "d=i+4", "e=i+5");
        String[] lists = {"0 1 2 3 4", "0 0 1 1 2", "0 0 0 1 1", "0 0 0 0 1"};
        for (int units = 1; units <= 4; units++) {
            units(x, "a", units);
            same("26 by " + units, Checks.each(x, x::step), lists[units - 1]);
            same("27 by " + units, x.length(), (5 + units - 1) / units);
            same("28 in step 0 by " + units, x.inStep(0), units);
            same("28 behind the last step by " + units, x.inStep(x.length()), 0);
        }
    }

    private static void theLeastLateStepGetsTheUnit() {
        // The last one has an operation behind it, so its late step is the least one.
        steps("the last first", Checks.of("a=i+1", "b=i+2", "c=i+3", "c=c*3"), "0 0 0 1", "1 1 0 1", "1 2 0 1", 3);
        // A unit begins a node each cycle, though nodes take five.
        steps("a unit each cycle", with(Checks.of("a=i+1", "b=i+2"), "a", 5), "0 0", "0 0", "0 1", 6);
        // The unit of another kind is free.
        steps("another kind", Checks.of("a=i+1", "b=i*2", "c=3"), "0 0 0", "0 0 0", "0 0 0", 1);
    }

    private static void aNodeWaitsUntilThoseAheadHaveASTep() {
        // The last node may begin four cycles ahead of the one that uses a, but this one has its step only in 5.
        Schedulary x = with(Checks.of("c=i*i", ">=a+c", "a=b*b"), "m", 5);
        steps("those ahead having a step", x, "0 5 6 1", "0 5 6 2", "0 5 6 5", 10);
        same("28 in step 5", x.inStep(5), 2);
        // In one cycle: the first one gets its step, and by that the second one can begin in it, too.
        steps("in the same cycle", Checks.of(">=a", "a=b", "b=i+1"), "0 0 0", "0 0 0", "0 0 0", 1);
    }

    private static void aChainTakesAllItsCycles() {
        Schedulary x = with(filled(12, "a=a+1"), "a", 5);
        x.unroll(2);
        same("27 the longest chain of one kind", x.length(), 120);
        same("24 its last one", x.soon(23), 115);
        same("25 its first one", x.late(0), 0);
        same("26 its last one", x.step(23), 115);
        same("28 its last one", x.inStep(115), 1);
        same("28 between", x.inStep(114), 0);
        // Two readers one behind the other, the operation, and what writes: the next readers are 5 cycles behind it.
        Schedulary y = with(filled(12, "M[0]=M[0]*M[0]"), "Mm", 5, 5);
        y.unroll(2);
        same("27 96 slow nodes", y.length(), 23 * 16 + 16);
        same("24 as soon, both readers at once", y.soon(95), 23 * 15 + 10);
        same("25 as late", y.late(0), 0);
    }

    private static void inStepOfAnyNumber() {
        Schedulary x = Checks.of("a=1", ">=a", "b=i+1");
        same("28 step 0", x.inStep(0), 2);
        same("28 step 1", x.inStep(1), 1);
        for (int step : new int[] {2, 3, -1, 480, 481, LEAST, GREATEST}) {
            same("28 step " + step, x.inStep(step), 0);
        }
    }

    // Promise 29: values of registers that wait.

    private static void aValueThatNobodyUsesDoesNotWait() {
        same("29 nothing is made", Checks.of(">=a", ">=1").waiting(), 0);
        same("29 nobody uses it", with(Checks.of("a=1", "b=i*2"), "m", 5).waiting(), 0);
        same("29 made anew ahead of use", with(Checks.of("a=1", "a=2", "b=i*2", "c=b*3"), "m", 5).waiting(), 1);
        same("29 given within a statement", with(Checks.of(">=<*M[0]", "N[0]=i+1"), ">", 5).waiting(), 0);
        same("29 made anew by its user", Checks.of("a=1", "a=a+1").waiting(), 1);
    }

    private static void aValueWaitsFromWhereItIsThereToItsLastUse() {
        // a is there in 1, and used in 1.
        same("29 one cycle", Checks.of("a=1", ">=a").waiting(), 1);
        // a is there in 1 and used in 1 and 2, b is there in 2 and used in it.
        Schedulary x = Checks.of("a=i*3", "b=a+1", ">=a", ">=b");
        same("26 one cycle of both", Checks.each(x, x::step), "0 1 1 2");
        same("29 b is there when a was used", x.waiting(), 1);
        Schedulary y = Checks.of("a=i*3", "b=a+1", ">=1", ">=a", ">=b");
        // The second > is in 1: a waits in 1, b in 2.
        same("26 the channel is free in 1", Checks.each(y, y::step), "0 1 0 1 2");
        same("29 still one", y.waiting(), 1);
        Schedulary z = Checks.of("a=i*3", "b=a+1", ">=1", ">=2", ">=a", ">=b");
        // Now a is used in 2, the cycle in which b is there; b is used in 3.
        same("26 the channel is free in 2", Checks.each(z, z::step), "0 1 0 1 2 3");
        same("29 the cycle of the last use counts", z.waiting(), 2);
    }

    private static void aValueOfTheTurnBehindWaitsToTheLastCycle() {
        // Made in 0, there in 1, and the length is 1: no cycle is left.
        same("29 no cycle left", Checks.of(">=a", "a=1").waiting(), 0);
        same("29 one cycle left", with(Checks.of(">=a", "a=1"), ">", 2).waiting(), 1);
        same("29 itself in the turn behind", with(Checks.of("a=a+1", "N[0]=1"), "N", 2).waiting(), 1);
        same("29 itself, at the end of the length", with(Checks.of("a=a+1", "N[0]=1"), "a", 2).waiting(), 0);
        // b is there in 4, the last cycle, a from 1 on; both are used by the turn behind.
        same("29 both in the last cycle", with(Checks.of(">=a-b", "a=1", "b=i*2"), "m>", 3, 3).waiting(), 2);
        same("29 not the last cycle by one more", with(Checks.of(">=a-b", "a=1", "b=i*2"), "m>", 4, 3).waiting(), 1);
        // The next turn makes a anew ahead of its use.
        same("29 not beyond the next maker", with(Checks.of("a=1", ">=a", ">=2"), ">", 5).waiting(), 1);
        same("29 used by the first maker of the turn behind", with(Checks.of("a=a+1", ">=1", "a=3"), ">", 5).waiting(),
                1);
    }

    private static void valuesWaitByListsNotAsSoonAsPossible() {
        // One unit adds in 0, 1 and 2: b is there in 1, and waits for the turn behind up to 2.
        Schedulary x = Checks.of(">=b", "b=1", "c=i+1", "d=i+2", "e=i+3");
        steps("by the length", x, "0 0 0 0 0", "0 0 0 0 0", "0 0 0 1 2", 3);
        same("29 by the length", x.waiting(), 1);
        // a would be there in 1, with c, but is so in 2 alone.
        Schedulary y = Checks.of("c=i+1", ">=c", "a=i+2", ">=a");
        steps("by where it is there", y, "0 1 0 2", "0 1 1 2", "0 1 1 2", 3);
        same("29 by where it is there", y.waiting(), 1);
        // b could be used in 1, but the unit adds for N[0] then; in 2 it is used, and e is there.
        Schedulary z = with(Checks.of("b=4", "N[0]=M[0]+1", "d=b+2", "e=i*5", "f=e"), "m", 2);
        steps("by the last use", z, "0 0 1 2 1 0 2", "1 0 1 2 2 0 2", "0 0 1 2 2 0 2", 3);
        same("29 by the last use", z.waiting(), 2);
    }

    private static void allEightRegistersWait() {
        Schedulary x = Checks.of(">=a+b", ">=c+d", ">=e+f", ">=g+h", "a=1", "b=2", "c=3", "d=4", "e=5", "f=6", "g=7",
                "h=8");
        units(x, "g", 4);
        with(x, ">", 5);
        same("29 eight", x.waiting(), 8);
    }

    public static void main(String[] args) {
        aStatementHasOneToFourNodes();
        nodesAreUpTo96();
        withoutStatementsThereIsNothing();
        whatGivesAnOperandIsOneToFiveCyclesAhead();
        registersGoRound();
        theLastMakerAheadAndTheNextBehind();
        weightsByRegistersAreLeastAndGreatest();
        theGreaterWeightCounts();
        memoriesJoinIfOneWrites();
        indexesWithIMeetZeroToEighteenTurnsLater();
        noTurnsLaterOnlyBehind();
        numbersMeetAtOnceOrOneTurnLater();
        indexesMeetIfTheFactorDividesTheirDifference();
        channelsGoRound();
        noOtherDistanceIsAnEdge();
        edgesAreUpToVeryMany();
        stepsBeginAtNothing();
        lateIsBoundByTheLengthAsSoonAsPossible();
        ofSeveralTheLowestNumber();
        theLeastLateStepGetsTheUnit();
        aNodeWaitsUntilThoseAheadHaveASTep();
        aChainTakesAllItsCycles();
        inStepOfAnyNumber();
        aValueThatNobodyUsesDoesNotWait();
        aValueWaitsFromWhereItIsThereToItsLastUse();
        aValueOfTheTurnBehindWaitsToTheLastCycle();
        valuesWaitByListsNotAsSoonAsPossible();
        allEightRegistersWait();
        CHECKS.end("BodyLimitsTest");
    }
}
