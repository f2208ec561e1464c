/** Promises 30 to 40 and 47 to 50 with their Terms: what is least and greatest, empty, full, and what goes round. */
public final class PaceLimitsTest {
    private static final Checks CHECKS = new Checks();
    private static final String KINDS = "amgMN<>";

    private static void same(String what, Object got, Object due) {
        CHECKS.same(what, got, due);
    }

    private static Schedulary filled(int statements, String statement) {
        String[] all = new String[statements];
        java.util.Arrays.fill(all, statement);
        return Checks.of(all);
    }

    private static Schedulary with(Schedulary x, String kinds, int... cycles) {
        for (int kind = 0; kind < cycles.length; kind++) {
            x.setCycles(kinds.charAt(kind), cycles[kind]);
        }
        return x;
    }

    private static Schedulary unrolled(Schedulary x, int turns, int factor) {
        x.setTurns(turns);
        x.unroll(factor);
        return x;
    }

    private static void bounds(String what, Schedulary x, int rings, int units, int interval, char binds) {
        same("30 " + what, x.byRings(), rings);
        same("31 " + what, x.byUnits(), units);
        same("32 " + what, x.interval(), interval);
        same("33 " + what, x.binds(), binds);
        CHECKS.holds("50 " + what, x.isSound());
    }

    private static void places(String what, Schedulary x, String due) {
        same("34 " + what, Checks.each(x, x::place), due);
    }

    // Promises 30 and 31: what binds the interval.

    private static void withoutNodesTheIntervalIsOne() {
        Schedulary x = new Schedulary();
        bounds("nothing", x, 1, 1, 1, '-');
        same("35 without nodes", x.cycles(), 0);
        same("36 without nodes", x.oneByOne(), 0);
        same("37 without nodes", x.circuitOutputs(), 0);
        same("39 without nodes", x.circuitMemory('M', 0), 0);
        CHECKS.holds("40 without nodes", x.isSame());
        same("47 without nodes", x.checksum(), 0L);
        for (char kind : KINDS.toCharArray()) {
            same("48 without nodes", x.busyShare(kind), 0f);
        }
        CHECKS.throwing("49 without nodes", ArithmeticException.class, x::meanStep);
        x.unroll(4);
        x.setTurns(16);
        bounds("nothing in copies", x, 1, 1, 1, '-');
        same("35 nothing in 4 turns", x.cycles(), 0);
    }

    private static void ringsAreRoundedUpFromOneOn() {
        for (int distance = 1; distance <= 9; distance++) {
            Schedulary x = Checks.of("M[i+" + distance + "]=M[i]*3");
            for (int memory = 1; memory <= 5; memory++) {
                for (int by = 1; by <= 5; by++) {
                    with(x, "Mm", memory, by);
                    int weight = 2 * memory + by;
                    int due = weight / distance + (weight % distance == 0 ? 0 : 1);
                    same("30 " + weight + " cycles by " + distance + " turns", x.byRings(), due);
                }
            }
        }
        bounds("a ring that needs less than one", Checks.of("M[i+9]=M[i-9]"), 1, 2, 2, 'M');
        bounds("no ring", with(Checks.of("a=1", "b=i*3"), "gm", 5, 5), 1, 1, 1, 'm');
        // -4 and 5 make a ring of 1; but the first steps, 0 and 0, keep the edge of 5 by an interval of 5.
        bounds("a weight less than nothing", with(Checks.of(">=a", "a=b*c"), "m", 5), 1, 1, 5, '-');
        bounds("a node by itself", with(Checks.of("a=a+1"), "a", 5), 5, 1, 5, 'r');
        bounds("a node by itself, one cycle", Checks.of("a=a+1"), 1, 1, 1, 'a');
    }

    private static void theHeaviestRingCounts() {
        bounds("two rings", with(Checks.of("a=a+1", "b=b*2"), "am", 2, 3), 3, 1, 3, 'r');
        bounds("the other way", with(Checks.of("a=a+1", "b=b*2"), "am", 4, 3), 4, 1, 4, 'r');
        bounds("a ring of 24", with(unrolled(filled(12, "a=a+1"), 8, 2), "a", 5), 120, 24, 120, 'r');
        bounds("a ring of 24 by one cycle", unrolled(filled(12, "a=a+1"), 8, 2), 24, 24, 24, 'a');
    }

    private static void theGreatestBody() {
        // 15 cycles for each statement round the memory; by one unit the second reader is one cycle behind the first.
        Schedulary x = with(unrolled(filled(12, "M[0]=M[0]*M[0]"), 16, 2), "Mm", 5, 5);
        same("30 the greatest", x.byRings(), 360);
        same("31 the greatest", x.byUnits(), 72);
        same("32 the greatest", x.interval(), 384);
        same("33 more than both", x.binds(), '-');
        same("34 the greatest", x.place(95), 379);
        same("35 the greatest", x.cycles(), 384 * 8);
        same("36 the greatest", x.oneByOne(), 480 * 8);
        same("48 the greatest", x.busyShare('M'), 72f / 384f);
        CHECKS.holds("40 the greatest", x.isSame());
        CHECKS.holds("50 the greatest", x.isSound());
        x.setUnits('M', 2);
        bounds("the greatest by two units", x, 360, 36, 360, 'r');
        same("35 the greatest by two units", x.cycles(), 360 * 8);
        x.setUnits('M', 4);
        same("31 the greatest by four units", x.byUnits(), 24);
    }

    private static void unitsAreRoundedUpFromOneOn() {
        for (int nodes = 1; nodes <= 12; nodes++) {
            Schedulary x = filled(nodes, "a=i+1");
            for (int units = 1; units <= 4; units++) {
                x.setUnits('a', units);
                int due = nodes / units + (nodes % units == 0 ? 0 : 1);
                same("31 " + nodes + " by " + units, x.byUnits(), due);
            }
        }
        String[] statements = {"a=i-1", "a=i*2", "a=i|1", "M[0]=1", "N[0]=1", "a=<", ">=1"};
        for (int kind = 0; kind < 7; kind++) {
            Schedulary x = filled(3, statements[kind]);
            same("31 three of " + KINDS.charAt(kind), x.byUnits(), 3);
            same("33 three of " + KINDS.charAt(kind), x.binds(), KINDS.charAt(kind));
            same("48 three of " + KINDS.charAt(kind), x.busyShare(KINDS.charAt(kind)), 1f);
            x.unroll(4);
            same("31 twelve of " + KINDS.charAt(kind), x.byUnits(), 12);
        }
    }

    // Promise 33: what binds.

    private static void unitsBindIfRingsBindAlike() {
        Schedulary x = with(Checks.of("a=a+1", "b=i*2", "c=i*3"), "a", 1);
        bounds("units alone", x, 1, 2, 2, 'm');
        bounds("both", with(x, "a", 2), 2, 2, 2, 'm');
        bounds("rings by one more", with(x, "a", 3), 3, 2, 3, 'r');
    }

    private static void theFirstKindByWhichUnitsBind() {
        String[] twice = {"a=i+1", "b=i*1", "c=i", "M[0]=1", "N[0]=1", "d=<", ">=1"};
        for (int first = 0; first < 7; first++) {
            for (int second = first + 1; second < 7; second++) {
                String one = twice[first];
                String other = twice[second];
                bounds(one + " and " + other, Checks.of(other, other, one, one), byRings(first, second), 2, 2,
                        KINDS.charAt(first));
                bounds(one + " less than " + other, Checks.of(one, other, other), byRings(second, second), 2, 2,
                        KINDS.charAt(second));
            }
        }
    }

    /** Two that make a register, write to a place or use a channel go round in 2 cycles. */
    private static int byRings(int first, int second) {
        return first == second || first < second ? 2 : 1;
    }

    private static void moreThanBothIsTold() {
        // The second > is 3 cycles behind the first one, and one ahead of that of the turn behind.
        Schedulary x = with(Checks.of(">=i", "c=i+1", ">=c"), "a", 3);
        bounds("more than both", x, 2, 2, 4, '-');
        places("more than both", x, "0 0 3");
        same("35 more than both", x.cycles(), 4 + 4 * 7);
        bounds("as both", with(x, "a", 1), 2, 2, 2, '>');
        places("as both", x, "0 0 1");
        // One cycle more: still placed by the interval that both allow, as the turn behind begins at 3.
        bounds("one more than both", with(x, "a", 2), 2, 2, 3, '-');
        places("one more than both", x, "0 0 2");
    }

    // Promise 34: steps at the interval.

    private static void stepsAreTakenModuloTheInterval() {
        // The second one would begin in 2, but in each even cycle its unit begins the first one.
        Schedulary x = with(Checks.of("a=i+1", "b=a+2"), "a", 2);
        bounds("modulo 2", x, 1, 2, 2, 'a');
        places("modulo 2", x, "0 3");
        same("35 modulo 2", x.cycles(), 5 + 2 * 7);
        x.setUnits('a', 2);
        bounds("by two units", x, 1, 1, 1, 'a');
        places("by two units", x, "0 2");
        Schedulary y = with(Checks.of("a=i+1", "b=i+2", "c=b+a"), "a", 3);
        // The third one would begin in 4, the cycle 1 modulo 3, which the second one has; 5 is free.
        places("modulo 3", y, "0 1 5");
        bounds("modulo 3", y, 1, 3, 3, 'a');
    }

    private static void asManyStepsAreTriedAsTheInterval() {
        Schedulary x = filled(12, "M[0]=1");
        x.unroll(2);
        bounds("24 in a row", x, 24, 24, 24, 'M');
        same("34 the last one of 24", x.place(23), 23);
        Schedulary y = Checks.of("a=i+1", "b=i+2", "c=i+3", "d=i+4", "e=i+5");
        places("the last step tried", y, "0 1 2 3 4");
        y.setUnits('a', 4);
        places("a unit left", y, "0 0 0 0 1");
        bounds("a unit left", y, 1, 2, 2, 'a');
    }

    private static void placesBeginAtNothing() {
        places("one node", Checks.of("a=a+1"), "0");
        places("no ring pulls below 0", with(Checks.of(">=a", "a=b*c"), "m", 5), "0 0");
        // 6 is 0 modulo 2, which the first one has.
        places("the next step that is free", with(Checks.of("a=i", "b=a*2", "c=b"), "m", 5), "0 1 7");
        // In their order: the first one has the first step, though the other one is awaited.
        places("by their numbers", Checks.of("a=1+i", "b=2+i", "c=b*3"), "0 1 2");
    }

    private static void edgesOfTurnsAheadHoldBackLessByTheInterval() {
        // What is written one turn ahead is there by 5 less 2, eighteen turns ahead it is so long before.
        places("one turn ahead", Checks.of("M[i+1]=1", "a=M[i]"), "0 1");
        places("one turn ahead by 5", with(Checks.of("M[i+1]=1", "a=M[i]"), "M", 5), "0 3");
        places("two turns ahead by 5", with(Checks.of("M[i+2]=1", "a=M[i]"), "M", 5), "0 1");
        places("eighteen turns ahead by 5", with(Checks.of("M[i+9]=1", "a=M[i-9]"), "M", 5), "0 1");
    }

    private static void aUserHoldsBackTheMakerOfTheTurnBehind() {
        // a is there in 1 and read in 6: the next one may not be there ahead of 7, but the interval of rings is 1.
        Schedulary x = with(Checks.of("a=i", "b=i*2", "c=b+a"), "m", 5);
        bounds("held back", x, 1, 1, 5, '-');
        places("held back", x, "0 0 5");
        Schedulary y = with(Checks.of("b=i*2", "a=i", "c=b+a"), "m", 5);
        bounds("held back in another order", y, 1, 1, 5, '-');
        places("held back in another order", y, "0 0 5");
    }

    // Promises 35 and 36: cycles.

    private static void cyclesAreOfOneToSixteenTurns() {
        Schedulary x = with(Checks.of("a=a+i", ">=a"), "a>", 3, 5);
        for (int turns = 1; turns <= 16; turns++) {
            x.setTurns(turns);
            same("35 turns " + turns, x.cycles(), 8 + 3 * (turns - 1));
            same("36 turns " + turns, x.oneByOne(), 8 * turns);
        }
        x.unroll(4);
        // 4 sums of 3 cycles each, and the last value is written 5 cycles later.
        same("35 four turns of the body", x.cycles(), 17 + 12 * 3);
        same("36 four turns of the body", x.oneByOne(), 32 * 4);
        x.setTurns(4);
        same("35 one turn of the body", x.cycles(), 17);
        same("36 one turn of the body", x.oneByOne(), 32);
        Schedulary one = Checks.of("a=1");
        one.setTurns(1);
        same("35 the least", one.cycles(), 1);
        same("36 the least", one.oneByOne(), 1);
        // The one that ends last is not the last one.
        Schedulary y = with(Checks.of("b=i*2", "a=1"), "m", 5);
        y.setTurns(1);
        same("35 until all is written", y.cycles(), 5);
        same("36 each behind the other", y.oneByOne(), 6);
    }

    // Promises 37 to 40: the circuit.

    private static void whatIsThereIsWrittenAheadOfReading() {
        // Each is read in the cycle in which it is there.
        Schedulary x = with(Checks.of("a=a+1", "M[i]=a", ">=M[i]"), "aM>", 2, 3, 4);
        x.setTurns(3);
        places("read when it is there", x, "0 2 5 8");
        same("38 read when it is there", Checks.circuitOutputsOf(x), "1 2 3");
        // Read in the cycle in which it is written anew: that is there only so many cycles later.
        Schedulary y = Checks.of(">=a", "a=i+5", "b=M[0]", "M[0]=i+7", ">=b");
        y.setTurns(3);
        same("38 read as it is written anew", Checks.circuitOutputsOf(y), "0 0 5 7 6 8");
        CHECKS.holds("40 read as it is written anew", y.isSame());
    }

    private static void whatIsGivenWithinAStatementStays() {
        // What is read for the first turn is used when those of turns behind are read already.
        Schedulary x = with(Checks.of(">=<-M[i]"), "M", 5);
        x.setTurns(3);
        for (int value : new int[] {10, 20, 30}) {
            x.input(value);
        }
        x.setMemory('M', 1, 1);
        x.setMemory('M', 2, 2);
        bounds("turns overlap", x, 1, 1, 1, 'a');
        places("turns overlap", x, "0 0 5 6");
        same("38 turns overlap", Checks.circuitOutputsOf(x), "10 19 28");
    }

    private static void eachCopyHasItsOwnTurn() {
        for (int factor = 1; factor <= 4; factor++) {
            Schedulary x = unrolled(Checks.of("M[i]=i+1", "N[i+3]=M[i-1]*i", ">=M[i]-i"), 12, factor);
            for (int i = 0; i < 12; i++) {
                same("38 turn " + i + " by " + factor, x.circuitOutput(i), 1);
                same("39 M " + i + " by " + factor, x.circuitMemory('M', i), i + 1);
                same("39 N " + (i + 3) + " by " + factor, x.circuitMemory('N', i + 3), i * i);
            }
            CHECKS.holds("40 by " + factor, x.isSame());
        }
    }

    private static void theCircuitAtTheEnds() {
        Schedulary x = Checks.of("M[i]=<", "N[i-1]=M[i]", ">=N[i+1]-M[i-1]");
        x.setTurns(16);
        x.input(65535);
        x.setMemory('N', 15, 256 + 7);
        x.setMemory('M', 15, 1);
        same("38 the first", x.circuitOutput(0), 0);
        same("38 the second", x.circuitOutput(1), 1);
        same("38 the one that reads N 15", x.circuitOutput(14), 7);
        same("38 the last", x.circuitOutput(15), 0);
        same("39 M 0", x.circuitMemory('M', 0), 255);
        same("39 M 15", x.circuitMemory('M', 15), 0);
        same("39 N 0", x.circuitMemory('N', 0), 0);
        same("39 N 14", x.circuitMemory('N', 14), 0);
        same("39 N 15", x.circuitMemory('N', 15), 7);
        CHECKS.holds("40 at the ends", x.isSame());
        CHECKS.holds("50 at the ends", x.isSound());
    }

    // Promises 47 to 49: figures.

    private static void figuresAreLeastAndGreatest() {
        Schedulary one = with(Checks.of("a=a+1"), "a", 5);
        same("47 one node at 0", one.checksum(), 0L);
        same("48 one in five", one.busyShare('a'), 0.2f);
        same("48 none of these", one.busyShare('m'), 0f);
        same("49 one node at 0", one.meanStep(), 0.0);
        one.setUnits('a', 3);
        same("48 one in fifteen", one.busyShare('a'), 1f / 15f);
        same("48 one in one", Checks.of("a=i+1").busyShare('a'), 1f);
        // Steps 1 0 1 by lists, 0 0 1 as soon as possible, and 0 1 2 at the interval.
        Schedulary late = Checks.of("a=i+1", "b=i+2", "b=b*3");
        same("47 by lists", late.checksum(), (1L * 31 + 7) * 31 + 1 + 14);
        same("49 by lists", late.meanStep(), 2.0 / 3.0);
        Schedulary two = Checks.of(">=1", ">=2");
        same("47 two nodes", two.checksum(), 8L);
        same("48 full", two.busyShare('>'), 1f);
        same("49 two nodes", two.meanStep(), 0.5);
        same("47 three nodes", Checks.of(">=1", ">=2", ">=3").checksum(), 8L * 31 + 16);
        Schedulary many = filled(12, ">=i");
        many.unroll(2);
        long sum = 0;
        for (int node = 0; node < 24; node++) {
            sum = sum * 31 + node + 7L * node;
        }
        same("47 24 nodes, a sum that goes round", many.checksum(), sum);
        same("49 24 nodes", many.meanStep(), 11.5);
        Schedulary eight = filled(8, ">=i");
        sum = 0;
        for (int node = 0; node < 8; node++) {
            sum = sum * 31 + 8L * node;
        }
        CHECKS.holds("47 beyond what an int holds", sum > Integer.MAX_VALUE);
        same("47 eight nodes", eight.checksum(), sum);
    }

    public static void main(String[] args) {
        withoutNodesTheIntervalIsOne();
        ringsAreRoundedUpFromOneOn();
        theHeaviestRingCounts();
        theGreatestBody();
        unitsAreRoundedUpFromOneOn();
        unitsBindIfRingsBindAlike();
        theFirstKindByWhichUnitsBind();
        moreThanBothIsTold();
        stepsAreTakenModuloTheInterval();
        asManyStepsAreTriedAsTheInterval();
        placesBeginAtNothing();
        edgesOfTurnsAheadHoldBackLessByTheInterval();
        aUserHoldsBackTheMakerOfTheTurnBehind();
        cyclesAreOfOneToSixteenTurns();
        whatIsThereIsWrittenAheadOfReading();
        whatIsGivenWithinAStatementStays();
        eachCopyHasItsOwnTurn();
        theCircuitAtTheEnds();
        figuresAreLeastAndGreatest();
        CHECKS.end("PaceLimitsTest");
    }
}
