/** Promises 1 to 18: a new object, statements and what is told, and the program done in its order. */
public final class ProgramTest {
    private static final Checks CHECKS = new Checks();
    private static final Class<IllegalArgumentException> ARGUMENT = IllegalArgumentException.class;
    private static final Class<IllegalStateException> STATE = IllegalStateException.class;
    private static final Class<IndexOutOfBoundsException> INDEX = IndexOutOfBoundsException.class;
    private static final Class<UnsupportedOperationException> UNSUPPORTED = UnsupportedOperationException.class;

    private static void same(String what, Object got, Object due) {
        CHECKS.same(what, got, due);
    }

    private static void throwing(String what, Class<? extends RuntimeException> due, Checks.Call call) {
        CHECKS.throwing(what, due, call);
    }

    private static void aNewObject() {
        Schedulary x = new Schedulary();
        same("1 clear", x.clear(), 0);
        same("1 outputs", x.outputs(), 0);
        same("1 taken", x.taken(), 0);
        same("1 nodes", x.nodes(), 0);
        same("1 edges", x.edges(), 0);
        same("1 length", x.length(), 0);
        same("1 waiting", x.waiting(), 0);
        same("1 interval", x.interval(), 1);
        same("1 binds", x.binds(), '-');
        same("1 cycles", x.cycles(), 0);
        same("1 done", x.done(), 0);
        same("1 first input", x.input(3), 1);
        same("1 first action", x.action(2, 1, true), 1);
        for (char sign : "amgMN<>".toCharArray()) {
            same("1 units", x.setUnits(sign, 1), 1);
            same("1 cycles of " + sign, x.setCycles(sign, 1), 1);
        }
        same("1 turns", x.setTurns(5), 8);
        same("1 bits", x.setBits(5), 8);
        same("1 depth", x.setDepth(3, 5), 1);
        for (int place = 0; place < 16; place++) {
            same("1 memory", x.memoryAt('M', place) + x.memoryAt('N', place), 0);
        }
    }

    private static void typingSigns() {
        String signs = "0123456789abcdefghilMN=[]+-*&|^<>";
        for (int sign = 0; sign < 300; sign++) {
            Schedulary x = new Schedulary();
            char typed = (char) sign;
            if (signs.indexOf(typed) < 0) {
                throwing("2 type " + sign, ARGUMENT, () -> x.type(typed));
            } else {
                same("2 type " + sign, x.type(typed), 1);
                same("2 clear", x.clear(), 1);
            }
        }
        Schedulary x = new Schedulary();
        throwing("2 type a sign far off", ARGUMENT, () -> x.type((char) ('a' + 256)));
        throwing("2 type the last sign", ARGUMENT, () -> x.type((char) 65535));
        for (int count = 1; count <= 24; count++) {
            same("2 type", x.type('a'), count);
        }
        throwing("2 full", STATE, () -> x.type('a'));
        throwing("2 full and no sign", ARGUMENT, () -> x.type('j'));
        same("3 clear after 24", x.clear(), 24);
        same("3 clear again", x.clear(), 0);
        same("3 type after clear", x.type('b'), 1);
    }

    private static void faultIs(String signs, int due) {
        Schedulary x = new Schedulary();
        Checks.typed(x, signs);
        same("4 fault of " + signs, x.fault(), due);
        same("4 what is left of " + signs, x.clear(), signs.length());
    }

    private static void faults() {
        for (String whole : new String[] {"a=b", "h=9", "h=00", "a=i", "a=<", "a=M[i]", "a=N[99]", ">=<", ">=i", "N[0]=0",
            "M[i+9]=M[i-0]^N[07]", "M[i+1]=M[i+1]*M[i+1]", "a=blc", "a=ili", "a=<-<", "a=1|22", "a=b&c", "a=b+c", "a=b*c"}) {
            faultIs(whole, -1);
        }
        faultIs("", 0);
        faultIs("a", 1);
        faultIs("a=", 2);
        faultIs("a=b+", 4);
        faultIs("M", 1);
        faultIs("M[", 2);
        faultIs("M[i", 3);
        faultIs("M[i+", 4);
        faultIs("M[i+1", 5);
        faultIs("M[i+1]", 6);
        faultIs("a=N[1", 5);
        faultIs("i=1", 0);
        faultIs("l=1", 0);
        faultIs("<=1", 0);
        faultIs("5=a", 0);
        faultIs("=a", 0);
        faultIs("a+b", 1);
        faultIs("a==b", 2);
        faultIs("a=>", 2);
        faultIs("a=l", 2);
        faultIs("a=-1", 2);
        faultIs("a=]", 2);
        faultIs("a=123", 4);
        faultIs("a=12b", 4);
        faultIs("a=bc", 3);
        faultIs("a=i1", 3);
        faultIs("a=<1", 3);
        faultIs("a=b=c", 3);
        faultIs("a=b+c+d", 5);
        faultIs("a=b+12+", 6);
        faultIs("a=b+l", 4);
        faultIs("a=b+>", 4);
        faultIs("Ma", 1);
        faultIs("M[a]=1", 2);
        faultIs("M[]=1", 2);
        faultIs("M[-1]=1", 2);
        faultIs("M[100]=1", 4);
        faultIs("M[1+1]=1", 3);
        faultIs("M[i*2]=1", 3);
        faultIs("M[i2]=1", 3);
        faultIs("M[i+12]=1", 5);
        faultIs("M[i+i]=1", 4);
        faultIs("M[i-]=1", 4);
        faultIs("M[i]a", 4);
        faultIs("a=M[i]]", 6);
        faultIs("a=b+M[i]]", 8);
    }

    private static void adding() {
        Schedulary x = new Schedulary();
        throwing("5 add nothing", ARGUMENT, x::add);
        Checks.typed(x, "a=b+");
        throwing("5 add half a statement", ARGUMENT, x::add);
        same("5 the buffer stays", x.clear(), 4);
        for (int count = 1; count <= 12; count++) {
            Checks.typed(x, "a=b+1");
            same("5 add", x.add(), count);
            same("5 the buffer is empty", x.clear(), 0);
        }
        Checks.typed(x, "a=b+1");
        throwing("5 add a 13th", STATE, x::add);
        same("5 the buffer stays", x.clear(), 5);
        throwing("5 add nothing as a 13th", ARGUMENT, x::add);
        same("5 nodes", x.nodes(), 12);

        Schedulary y = new Schedulary();
        y.unroll(4);
        for (int count = 1; count <= 6; count++) {
            Checks.typed(y, "a=b+1");
            same("5 add in four copies", y.add(), count);
        }
        Checks.typed(y, "a=b");
        throwing("5 add a 7th in four copies", STATE, y::add);
        y.unroll(2);
        same("5 add a 7th in two copies", y.add(), 7);
    }

    private static void replacing() {
        Schedulary x = Checks.of("a=b+1", ">=a");
        throwing("6 replace with nothing", ARGUMENT, () -> x.replace(0));
        throwing("6 replace no statement with nothing", INDEX, () -> x.replace(2));
        Checks.typed(x, "a=M[0]*<");
        throwing("6 replace -1", INDEX, () -> x.replace(-1));
        throwing("6 replace 2", INDEX, () -> x.replace(2));
        same("6 nodes are as before", x.nodes(), 2);
        same("6 replace", x.replace(0), 4);
        same("6 the buffer is empty", x.clear(), 0);
        same("6 nodes", x.nodes(), 4);
        Checks.typed(x, ">=7");
        same("6 replace the last one", x.replace(1), 4);
        same("6 outputs", Checks.outputsOf(x), "7 7 7 7 7 7 7 7");
        Checks.typed(x, "=");
        throwing("6 replace with no statement", ARGUMENT, () -> x.replace(1));
        same("6 the buffer stays", x.clear(), 1);
        x.unroll(2);
        Checks.typed(x, "b=1");
        same("6 replace in two copies", x.replace(0), 4);
    }

    private static void turnsAndFactor() {
        Schedulary x = Checks.of(">=i");
        throwing("7 no turns", ARGUMENT, () -> x.setTurns(0));
        throwing("7 17 turns", ARGUMENT, () -> x.setTurns(17));
        throwing("7 -1 turns", ARGUMENT, () -> x.setTurns(Integer.MIN_VALUE));
        same("7 16 turns", x.setTurns(16), 8);
        same("7 outputs", x.outputs(), 16);
        same("7 1 turn", x.setTurns(1), 16);
        same("7 output", Checks.outputsOf(x), "0");
        x.setTurns(6);
        throwing("9 factor 0", ARGUMENT, () -> x.unroll(0));
        throwing("9 factor 5", ARGUMENT, () -> x.unroll(5));
        throwing("9 factor 4 of 6", UNSUPPORTED, () -> x.unroll(4));
        same("9 unroll", x.unroll(3), 3);
        same("9 outputs", Checks.outputsOf(x), "0 1 2 3 4 5");
        same("9 circuit", Checks.circuitOutputsOf(x), "0 1 2 3 4 5");
        throwing("7 8 turns by 3", UNSUPPORTED, () -> x.setTurns(8));
        throwing("7 17 turns by 3", ARGUMENT, () -> x.setTurns(17));
        same("7 3 turns by 3", x.setTurns(3), 6);
        same("9 one body", x.cycles(), 3);

        Schedulary y = Checks.of("a=1", "a=2", "a=3", "a=4", "a=5", "a=6", "a=7");
        throwing("9 28 statements", STATE, () -> y.unroll(4));
        throwing("9 3 of 8 turns", UNSUPPORTED, () -> y.unroll(3));
        same("9 14 nodes", y.unroll(2), 14);
        y.unroll(1);
        y.setTurns(9);
        same("9 21 nodes", y.unroll(3), 21);
        Schedulary z = Checks.of("a=1", "a=2", "a=3", "a=4", "a=5", "a=6", "a=7", "a=8", "a=9");
        z.setTurns(9);
        throwing("9 27 statements", STATE, () -> z.unroll(3));
    }

    private static void valuesOfSomeBits() {
        Schedulary x = Checks.of(">=<", ">=M[3]", ">=99", ">=i");
        x.setTurns(6);
        same("10 input", x.input(300), 1);
        same("10 input", x.input(65535), 2);
        same("10 input", x.input(0), 3);
        throwing("10 input -1", ARGUMENT, () -> x.input(-1));
        throwing("10 input 65536", ARGUMENT, () -> x.input(65536));
        same("11 memory", x.setMemory('M', 3, 515), 0);
        same("11 memory told", x.setMemory('M', 3, 514), 515);
        same("8 by 8 bits", Checks.outputsOf(x), "44 2 99 0 255 2 99 1 0 2 99 2 0 2 99 3 0 2 99 4 0 2 99 5");
        throwing("8 no bits", ARGUMENT, () -> x.setBits(0));
        throwing("8 17 bits", ARGUMENT, () -> x.setBits(17));
        same("8 2 bits", x.setBits(2), 8);
        same("8 by 2 bits", Checks.outputsOf(x), "0 2 3 0 3 2 3 1 0 2 3 2 0 2 3 3 0 2 3 0 0 2 3 1");
        same("8 memory by 2 bits", x.memoryAt('M', 3), 2);
        same("8 circuit by 2 bits", Checks.circuitOutputsOf(x), Checks.outputsOf(x));
        same("8 16 bits", x.setBits(16), 2);
        same("8 by 16 bits", Checks.outputsOf(x), "300 514 99 0 65535 514 99 1 0 514 99 2 0 514 99 3 0 514 99 4 0 514 99 5");
        same("8 1 bit", x.setBits(1), 16);
        same("8 memory told stays", x.setMemory('M', 3, 0), 514);
        for (int count = 4; count <= 32; count++) {
            same("10 input", x.input(1), count);
        }
        throwing("10 a 33rd input", STATE, () -> x.input(1));
        throwing("10 a 33rd input of -1", ARGUMENT, () -> x.input(-1));
    }

    private static void memoriesUnitsAndCycles() {
        Schedulary x = Checks.of("N[i+1]=N[i]");
        throwing("11 memory O", ARGUMENT, () -> x.setMemory('O', 0, 0));
        throwing("11 memory m", ARGUMENT, () -> x.setMemory('m', 0, 0));
        throwing("11 place -1", ARGUMENT, () -> x.setMemory('N', -1, 0));
        throwing("11 place 16", ARGUMENT, () -> x.setMemory('N', 16, 0));
        throwing("11 value -1", ARGUMENT, () -> x.setMemory('N', 0, -1));
        throwing("11 value 65536", ARGUMENT, () -> x.setMemory('N', 0, 65536));
        same("11 place 0", x.setMemory('N', 0, 65535), 0);
        same("11 place 15", x.setMemory('M', 15, 7), 0);
        same("16 M 15", x.memoryAt('M', 15), 7);
        same("16 N 8", x.memoryAt('N', 8), 255);
        same("16 N 9", x.memoryAt('N', 9), 0);
        throwing("16 memory O", ARGUMENT, () -> x.memoryAt('O', 0));
        throwing("16 place -1", ARGUMENT, () -> x.memoryAt('M', -1));
        throwing("16 place 16", ARGUMENT, () -> x.memoryAt('N', 16));
        same("11 told, not what it has", x.setMemory('N', 1, 5), 0);
        same("11 told", x.setMemory('N', 1, 6), 5);
        throwing("12 kind x", ARGUMENT, () -> x.setUnits('x', 1));
        throwing("12 no units", ARGUMENT, () -> x.setUnits('a', 0));
        throwing("12 5 units", ARGUMENT, () -> x.setUnits('a', 5));
        throwing("12 5 units of a channel", ARGUMENT, () -> x.setUnits('<', 5));
        throwing("12 2 units of a channel", UNSUPPORTED, () -> x.setUnits('<', 2));
        throwing("12 4 units of a channel", UNSUPPORTED, () -> x.setUnits('>', 4));
        same("12 1 unit of a channel", x.setUnits('>', 1), 1);
        same("12 4 units", x.setUnits('N', 4), 1);
        same("12 2 units", x.setUnits('N', 2), 4);
        same("12 units of another kind", x.setUnits('M', 3), 1);
        same("12 N by 2", x.byUnits(), 1);
        throwing("13 kind x", ARGUMENT, () -> x.setCycles('x', 1));
        throwing("13 no cycles", ARGUMENT, () -> x.setCycles('a', 0));
        throwing("13 6 cycles", ARGUMENT, () -> x.setCycles('<', 6));
        same("13 5 cycles", x.setCycles('<', 5), 1);
        same("13 4 cycles", x.setCycles('N', 4), 1);
        same("13 3 cycles", x.setCycles('N', 3), 4);
        same("13 a length by these", x.length(), 6);
    }

    private static void operations() {
        Schedulary x = Checks.of(">=a+b", ">=a-b", ">=b-a", ">=a*b", ">=a&b", ">=a|b", ">=a^b", ">=alb", ">=bla",
                ">=blb", "a=<", "b=<");
        x.setTurns(2);
        for (int value : new int[] {200, 100, 200, 100}) {
            x.input(value);
        }
        same("14 outputs", x.outputs(), 20);
        StringBuilder all = new StringBuilder();
        for (int index = 10; index < 20; index++) {
            all.append(x.output(index)).append(' ');
        }
        same("15 all operations", all.toString(), "44 100 156 32 64 236 172 0 1 0 ");
        same("15 registers are 0 at first", x.output(0), 0);
        throwing("15 output -1", INDEX, () -> x.output(-1));
        throwing("15 output 20", INDEX, () -> x.output(20));
        x.setBits(16);
        same("15 a difference below 0", x.output(12), 65436);
        same("15 a product", x.output(13), 20000);
        same("17 a", x.register('a'), 200);
        same("17 b", x.register('b'), 100);
        same("17 c", x.register('c'), 0);
        same("17 h", x.register('h'), 0);
        throwing("17 i", ARGUMENT, () -> x.register('i'));
        throwing("17 `", ARGUMENT, () -> x.register('`'));
        throwing("17 A", ARGUMENT, () -> x.register('A'));
        Schedulary y = Checks.of("a=65", "h=a*a", "h=h*h", "h=h*h");
        y.setBits(16);
        int due = (int) (65L * 65 % 65536);
        due = (int) ((long) due * due % 65536);
        due = (int) ((long) due * due % 65536);
        same("17 great products", y.register('h'), due);
        Schedulary z = Checks.of("a=a+1", "b=a", "h=i");
        z.setBits(2);
        z.setTurns(7);
        same("17 counted by 2 bits", z.register('a'), 3);
        same("17 moved", z.register('b'), 3);
        same("17 i by 2 bits", z.register('h'), 2);
    }

    private static void orderAndPlaces() {
        Schedulary x = Checks.of("a=<-<", ">=a");
        x.setTurns(2);
        x.input(9);
        x.input(4);
        x.input(20);
        same("15 the first operand is read first", Checks.outputsOf(x), "5 20");
        same("18 taken", x.taken(), 3);
        x.input(1);
        same("18 taken of 4", x.taken(), 4);
        x.input(1);
        same("18 taken of 5", x.taken(), 4);
        same("18 none taken", Checks.of("a=1").taken(), 0);

        Schedulary y = Checks.of("M[i-2]=i+1", "N[i+9]=7", "M[99]=5", ">=M[i-3]", ">=N[16]", ">=M[99]");
        y.setTurns(16);
        for (int place = 0; place < 16; place++) {
            same("16 M " + place, y.memoryAt('M', place), place < 14 ? place + 3 : 0);
            same("16 N " + place, y.memoryAt('N', place), place > 8 ? 7 : 0);
        }
        same("15 a place ahead of 0", y.output(0), 0);
        same("15 a place ahead of 0 again", y.output(6), 0);
        same("15 place 0 in turn 3", y.output(9), 3);
        same("15 places behind 15", y.output(10) + y.output(11), 0);

        Schedulary z = Checks.of("M[i]=1");
        z.setBits(1);
        z.setTurns(16);
        same("16 an index takes i as it is", z.memoryAt('M', 15), 1);
        Schedulary u = Checks.of("M[0]=M[0]+1", "a=a+a", "a=a+1");
        u.setTurns(3);
        same("16 read ahead of writing", u.memoryAt('M', 0), 3);
        same("17 read ahead of writing", u.register('a'), 7);
    }

    public static void main(String[] args) {
        aNewObject();
        typingSigns();
        faults();
        adding();
        replacing();
        turnsAndFactor();
        valuesOfSomeBits();
        memoriesUnitsAndCycles();
        operations();
        orderAndPlaces();
        CHECKS.end("ProgramTest");
    }
}
