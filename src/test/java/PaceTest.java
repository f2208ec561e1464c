/** Promises 30 to 40 and 47 to 50: the interval, the circuit and figures, reckoned by hand from the document. */
public final class PaceTest {
    private static final Checks CHECKS = new Checks();
    private static final Class<IllegalArgumentException> ARGUMENT = IllegalArgumentException.class;
    private static final Class<IndexOutOfBoundsException> INDEX = IndexOutOfBoundsException.class;

    private static void same(String what, Object got, Object due) {
        CHECKS.same(what, got, due);
    }

    private static void throwing(String what, Class<? extends RuntimeException> due, Checks.Call call) {
        CHECKS.throwing(what, due, call);
    }

    private static void boundsAre(String what, Schedulary x, int rings, int units, int interval, char binds) {
        same("30 rings of " + what, x.byRings(), rings);
        same("31 units of " + what, x.byUnits(), units);
        same("32 interval of " + what, x.interval(), interval);
        same("33 binds " + what, x.binds(), binds);
    }

    private static void bounds() {
        boundsAre("nothing", new Schedulary(), 1, 1, 1, '-');
        boundsAre("one node", Checks.of("a=1"), 1, 1, 1, 'g');
        Schedulary sum = Checks.of("a=a+1");
        boundsAre("a sum of one cycle", sum, 1, 1, 1, 'a');
        sum.setCycles('a', 4);
        boundsAre("a sum of four cycles", sum, 4, 1, 4, 'r');
        // Seven cycles round, two turns ahead.
        Schedulary ring = Checks.of("M[i+2]=M[i]+1");
        ring.setCycles('M', 2);
        ring.setCycles('a', 3);
        boundsAre("a ring over two turns", ring, 4, 2, 4, 'r');
        ring.setUnits('M', 2);
        boundsAre("the same by two units", ring, 4, 1, 4, 'r');

        Schedulary five = Checks.of("a=i+1", "b=i+2", "c=i+3", "d=i+4", "e=i+5");
        boundsAre("five by one unit", five, 1, 5, 5, 'a');
        five.setUnits('a', 2);
        boundsAre("five by two units", five, 1, 3, 3, 'a');
        five.setUnits('a', 4);
        boundsAre("five by four units", five, 1, 2, 2, 'a');
        // Rings and units bind alike: a unit is told.
        Schedulary alike = Checks.of("a=a+1", "b=i*2", "c=i*3");
        alike.setCycles('a', 2);
        boundsAre("two kinds and a ring", alike, 2, 2, 2, 'm');
        // d is made by 0 and 1 in turn, and used by 2, whose unit is taken by 0 in all cycles that the rings leave.
        boundsAre("more than both", Checks.of("d=15&d", "d=ala", "b=d"), 2, 2, 3, '-');
        boundsAre("kinds in their order", Checks.of(">=N[0]", "b=N[1]+1", ">=<"), 2, 2, 2, 'N');
        boundsAre("channels", Checks.of(">=<", ">=<"), 1 + 1, 2, 2, '<');
        boundsAre("the channel out", Checks.of(">=1", ">=2"), 2, 2, 2, '>');
        boundsAre("M", Checks.of("a=M[0]", "b=M[1]"), 1, 2, 2, 'M');
        boundsAre("g", Checks.of("a=M[0]", "b=1&i", "c=1|i"), 1, 2, 2, 'g');
    }

    private static void placesAre(Schedulary x, String due) {
        same("34 places", Checks.each(x, x::place), due);
    }

    private static void places() {
        placesAre(Checks.of("d=15&d", "d=ala", "b=d"), "0 1 2");
        Schedulary five = Checks.of("a=i+1", "b=i+2", "c=i+3", "d=i+4", "e=i+5");
        five.setUnits('a', 2);
        placesAre(five, "0 0 1 1 2");
        // By numbers, not by late steps: 0 takes the unit first, and 1 the next cycle.
        Schedulary x = Checks.of("a=1+i", "b=2+i", "c=b*3", ">=c", ">=a");
        x.setCycles('m', 2);
        placesAre(x, "0 1 2 4 5");
        same("35 cycles", x.cycles(), 6 + 5 * 7);
        same("36 one by one", x.oneByOne(), 6 * 8);
        // Rings and units allow 2, but the last node reads a in 5, and by less the next a would be there ahead of it.
        boundsAre("a value that waits", x, 2, 2, 5, '-');
        for (int node : new int[] {-1, 5, Integer.MAX_VALUE, Integer.MIN_VALUE}) {
            throwing("34 place " + node, INDEX, () -> x.place(node));
        }
        throwing("34 place without nodes", INDEX, () -> new Schedulary().place(0));
    }

    private static void cycles() {
        Schedulary x = Checks.of("a=a+M[i]", ">=a");
        x.setTurns(4);
        same("35 cycles", x.cycles(), 3 + 3);
        x.setCycles('a', 3);
        same("35 cycles by three", x.cycles(), 5 + 9);
        same("36 one by one", x.oneByOne(), 20);
        x.setCycles('>', 5);
        same("35 cycles until all is written", x.cycles(), 9 + 9);
        x.unroll(4);
        same("35 cycles of one body", x.cycles(), 1 + 12 + 5);
        same("36 one by one of one body", x.oneByOne(), 36);
        same("35 without nodes", new Schedulary().cycles(), 0);
        same("36 without nodes", new Schedulary().oneByOne(), 0);
    }

    private static void circuit() {
        Schedulary x = Checks.of("M[i+1]=M[i]*3", "N[i-1]=<", ">=M[i]-<", "a=a^M[i+1]", "b=bla");
        x.setMemory('M', 0, 7);
        for (int value : new int[] {1, 20, 300, 4000, 5, 60, 700}) {
            x.input(value);
        }
        x.setCycles('m', 4);
        x.setCycles('M', 2);
        x.setCycles('<', 3);
        x.setUnits('M', 3);
        x.setTurns(4);
        // M is 7, 21, 63, 189 and 55 (567 by 8 bits); N takes 20 out of 1, 300, 5 and 700 at 0 and so on.
        same("37 outputs", x.circuitOutputs(), 4);
        same("38 outputs", Checks.circuitOutputsOf(x), "243 117 3 189");
        same("14 outputs", Checks.outputsOf(x), "243 117 3 189");
        same("39 M", x.circuitMemory('M', 4), 55);
        same("39 N 0", x.circuitMemory('N', 0), 44);
        same("39 N 1", x.circuitMemory('N', 1), 5);
        same("39 N 2", x.circuitMemory('N', 2), 188);
        same("39 N 3", x.circuitMemory('N', 3), 0);
        CHECKS.holds("40 isSame", x.isSame());
        CHECKS.holds("50 isSound", x.isSound());
        throwing("38 output -1", INDEX, () -> x.circuitOutput(-1));
        throwing("38 output 4", INDEX, () -> x.circuitOutput(4));
        throwing("39 memory O", ARGUMENT, () -> x.circuitMemory('O', 0));
        throwing("39 place -1", ARGUMENT, () -> x.circuitMemory('M', -1));
        throwing("39 place 16", ARGUMENT, () -> x.circuitMemory('N', 16));
        x.setBits(16);
        same("38 outputs by 16 bits", Checks.circuitOutputsOf(x), "65523 61557 3 189");
        same("39 M by 16 bits", x.circuitMemory('M', 4), 567);
        x.setMemory('M', 0, 1);
        same("39 told anew", x.circuitMemory('M', 4), 81);
        x.input(1);
        same("38 with one more input", Checks.circuitOutputsOf(x), "65517 61539 65485 26");
        for (int factor : new int[] {2, 4, 1}) {
            x.unroll(factor);
            CHECKS.holds("40 isSame by " + factor, x.isSame());
            CHECKS.holds("50 isSound by " + factor, x.isSound());
            same("38 outputs by " + factor, Checks.circuitOutputsOf(x), "65517 61539 65485 26");
        }
        CHECKS.holds("40 nothing is the same", new Schedulary().isSame());
        CHECKS.holds("50 nothing is sound", new Schedulary().isSound());
    }

    private static void figures() {
        Schedulary x = Checks.of("a=1+i", "b=2+i", "c=b*3", ">=c", ">=a");
        x.setCycles('m', 2);
        // Steps 1 0 1 3 4, places 0 1 2 4 5.
        long due = 0;
        for (int term : new int[] {1, 7, 15, 31, 39}) {
            due = 31 * due + term;
        }
        same("47 checksum", x.checksum(), due);
        same("47 without nodes", new Schedulary().checksum(), 0L);
        Schedulary great = Checks.of(">=1", ">=2", ">=3", ">=4", ">=5", ">=6", ">=7", ">=8", ">=9", ">=1", ">=2", ">=3");
        great.unroll(2);
        due = 0;
        for (int node = 0; node < 24; node++) {
            due = 31 * due + 8 * node;
        }
        same("47 a sum that goes round", great.checksum(), due);
        same("48 a", x.busyShare('a'), 2f / 5f);
        same("48 m", x.busyShare('m'), 1f / 5f);
        same("48 g", x.busyShare('g'), 0f);
        x.setUnits('m', 3);
        same("48 m by three units", x.busyShare('m'), 1f / 15f);
        throwing("48 kind x", ARGUMENT, () -> x.busyShare('x'));
        throwing("48 kind r", ARGUMENT, () -> x.busyShare('r'));
        same("49 mean", x.meanStep(), 1.8);
        same("49 mean of thirds", Checks.of("a=1", "b=1", ">=i").meanStep(), 1.0 / 3.0);
        throwing("49 without nodes", ArithmeticException.class, () -> new Schedulary().meanStep());
        CHECKS.holds("50 isSound", x.isSound());
    }

    public static void main(String[] args) {
        bounds();
        places();
        cycles();
        circuit();
        figures();
        CHECKS.end("PaceTest");
    }
}
