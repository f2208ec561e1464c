import java.util.NoSuchElementException;

/** Promises 19 to 29: nodes, edges, steps and waiting values; what is due was reckoned by hand from the document. */
public final class BodyTest {
    private static final Checks CHECKS = new Checks();
    private static final Class<IndexOutOfBoundsException> INDEX = IndexOutOfBoundsException.class;

    private static void same(String what, Object got, Object due) {
        CHECKS.same(what, got, due);
    }

    private static void throwing(String what, Class<? extends RuntimeException> due, Checks.Call call) {
        CHECKS.throwing(what, due, call);
    }

    private static void kindsAre(String statement, String due) {
        Schedulary x = Checks.of(statement);
        same("19 nodes of " + statement, x.nodes(), due.length());
        same("20 kinds of " + statement, Checks.each(x, x::kindOf).replace(" ", ""), due);
    }

    private static void kinds() {
        kindsAre("a=b", "g");
        kindsAre("a=a", "g");
        kindsAre("a=3", "g");
        kindsAre("a=i", "g");
        kindsAre("a=<", "<");
        kindsAre("a=M[i]", "M");
        kindsAre("a=N[3]", "N");
        kindsAre("a=b+c", "a");
        kindsAre("a=1-2", "a");
        kindsAre("a=bli", "a");
        kindsAre("a=b*c", "m");
        kindsAre("a=b&c", "g");
        kindsAre("a=b|c", "g");
        kindsAre("a=b^c", "g");
        kindsAre("a=M[0]*N[i]", "MNm");
        kindsAre("a=N[0]*M[i]", "NMm");
        kindsAre("a=<+<", "<<a");
        kindsAre("a=b+M[1]", "Ma");
        kindsAre("M[i]=a", "M");
        kindsAre("N[i]=i", "N");
        kindsAre("M[0]=3", "M");
        kindsAre("N[3]=M[2]", "MN");
        kindsAre(">=a", ">");
        kindsAre(">=5", ">");
        kindsAre(">=i", ">");
        kindsAre(">=<", "<>");
        kindsAre(">=<lM[1]", "<Ma>");
        kindsAre("M[0]=M[1]^M[2]", "MMgM");
        kindsAre(">=a*b", "m>");
    }

    private static void statements() {
        Schedulary x = Checks.of("a=<", ">=M[0]*a", "N[i]=a");
        same("21 statements", Checks.each(x, x::statementOf), "0 1 1 1 2");
        x.unroll(2);
        same("19 nodes of two copies", x.nodes(), 10);
        same("21 statements of two copies", Checks.each(x, x::statementOf), "0 1 1 1 2 3 4 4 4 5");
        same("20 kinds of two copies", Checks.each(x, x::kindOf), "< M m > N < M m > N");
        for (int node : new int[] {-1, 10, Integer.MAX_VALUE, Integer.MIN_VALUE}) {
            throwing("20 kindOf " + node, INDEX, () -> x.kindOf(node));
            throwing("21 statementOf " + node, INDEX, () -> x.statementOf(node));
            throwing("23 weight from " + node, INDEX, () -> x.weight(node, 0, 0));
            throwing("23 weight to " + node, INDEX, () -> x.weight(0, node, 0));
            throwing("24 soon " + node, INDEX, () -> x.soon(node));
            throwing("25 late " + node, INDEX, () -> x.late(node));
            throwing("26 step " + node, INDEX, () -> x.step(node));
        }
        throwing("23 no edge", NoSuchElementException.class, () -> x.weight(0, 0, 0));
        throwing("23 a distance below 0", NoSuchElementException.class, () -> x.weight(0, 2, -1));
        throwing("23 a great distance", NoSuchElementException.class, () -> x.weight(0, 2, Integer.MAX_VALUE));
    }

    private static void edgesAre(Schedulary x, String due) {
        CHECKS.edgesAre("22 and 23", x, due);
    }

    private static Schedulary with(Schedulary x, String kinds, int... cycles) {
        for (int kind = 0; kind < cycles.length; kind++) {
            x.setCycles(kinds.charAt(kind), cycles[kind]);
        }
        return x;
    }

    private static void edgesByRegisters() {
        edgesAre(Checks.of("a=a+M[i]", ">=a"), "0>1@0=1 1>1@1=1 1>2@0=1 2>1@1=0");
        edgesAre(with(Checks.of("a=a+M[i]", ">=a"), "aM>", 3, 2, 5), "0>1@0=2 1>1@1=3 1>2@0=3 2>1@1=-2");
        edgesAre(with(Checks.of("a=1", "a=b*c"), "m", 4), "0>1@0=-2 1>0@1=4");
        edgesAre(Checks.of(">=a", "a=i"), "0>1@0=0 1>0@1=1");
        edgesAre(Checks.of(">=a"), "");
        edgesAre(Checks.of("a=a"), "0>0@1=1");
        edgesAre(Checks.of("a=3"), "");
        edgesAre(with(Checks.of("a=a+1", "a=a*2"), "a", 2), "0>1@0=2 1>0@1=1");
        // The user in the middle takes what the maker ahead made, and is over before the one behind has made another.
        edgesAre(with(Checks.of("a=1", ">=a", "a=b*c"), "gm>", 1, 2, 3), "0>1@0=1 0>2@0=0 1>2@0=-1 2>0@1=2");
        edgesAre(with(Checks.of("b=a+a"), "a", 5), "");
        edgesAre(with(Checks.of("a=<", "b=a*a"), "<", 5), "0>1@0=5 1>0@1=-4");
    }

    private static void edgesByMemories() {
        edgesAre(Checks.of("M[i+2]=1", "a=M[i]"), "0>1@2=1");
        edgesAre(with(Checks.of("M[i+2]=1", "a=M[i]"), "M", 3), "0>1@2=3");
        edgesAre(with(Checks.of("a=M[i+2]", "M[i]=1"), "M", 3), "0>1@2=-2");
        edgesAre(Checks.of("M[i+9]=1", "a=M[i-9]"), "0>1@18=1");
        edgesAre(with(Checks.of("M[i+1]=1", "M[i]=2"), "M", 3), "0>1@1=1");
        edgesAre(Checks.of("M[i]=1", "M[i+1]=2"), "1>0@1=1");
        edgesAre(Checks.of("M[i]=1", "a=M[i-0]"), "0>1@0=1");
        edgesAre(Checks.of("a=M[i]", "M[i+0]=1"), "0>1@0=0");
        edgesAre(Checks.of("M[3]=1", "a=M[03]"), "0>1@0=1 1>0@1=0");
        edgesAre(with(Checks.of("M[3]=1", "a=M[3]"), "M", 5), "0>1@0=5 1>0@1=-4");
        edgesAre(Checks.of("M[3]=1", "M[3]=2"), "0>1@0=1 1>0@1=1");
        edgesAre(Checks.of("M[3]=1", "a=M[4]"), "");
        edgesAre(Checks.of("M[30]=1", "a=M[30]"), "0>1@0=1 1>0@1=0");
        edgesAre(Checks.of("M[3]=1", "a=M[i+5]"), "0>1@0=1 1>0@1=0");
        edgesAre(Checks.of("a=M[i]", "M[3]=1"), "0>1@0=0 1>0@1=1");
        edgesAre(Checks.of("M[3]=1", "a=N[3]"), "");
        edgesAre(Checks.of("a=M[3]", "b=M[3]"), "");
        edgesAre(Checks.of("a=M[i]", "b=M[3]"), "");
        edgesAre(Checks.of("M[3]=1"), "");
        edgesAre(with(Checks.of("M[0]=M[0]"), "M", 3), "0>1@0=3 1>0@1=3");

        Schedulary x = Checks.of("M[i+1]=1", "a=M[i]");
        x.unroll(2);
        edgesAre(x, "0>3@0=1 1>3@0=1 2>1@1=1 3>1@1=1");
        Schedulary y = Checks.of("M[3]=i");
        y.unroll(2);
        edgesAre(y, "0>1@0=1 1>0@1=1");
    }

    private static void edgesByChannels() {
        edgesAre(Checks.of("a=<", "b=<+<"), "0>1@0=1 1>2@0=1 1>3@0=1 2>0@1=1 2>3@0=1");
        edgesAre(with(Checks.of("a=<", "b=<+<"), "<", 5), "0>1@0=1 1>2@0=1 1>3@0=5 2>0@1=1 2>3@0=5");
        edgesAre(Checks.of("a=<"), "");
        edgesAre(Checks.of(">=1", ">=2"), "0>1@0=1 1>0@1=1");
        edgesAre(with(Checks.of(">=<"), "<", 2), "0>1@0=2");
        edgesAre(with(Checks.of("M[i]=a*<"), "<m", 2, 3), "0>1@0=2 1>2@0=3");
    }

    private static void stepsAre(Schedulary x, String soon, String late, String lists, int length) {
        same("24 soon", Checks.each(x, x::soon), soon);
        same("25 late", Checks.each(x, x::late), late);
        same("26 step", Checks.each(x, x::step), lists);
        same("27 length", x.length(), length);
    }

    private static void steps() {
        Schedulary x = with(Checks.of("a=1+i", "b=2+i", "c=b*3", ">=c", ">=a"), "m", 2);
        stepsAre(x, "0 0 1 3 4", "3 0 1 3 4", "1 0 1 3 4", 5);
        same("28 in step 0", x.inStep(0), 1);
        same("28 in step 1", x.inStep(1), 2);
        same("28 in step 2", x.inStep(2), 0);
        same("28 in step 4", x.inStep(4), 1);
        same("28 in step 5", x.inStep(5), 0);
        same("28 in step -1", x.inStep(-1), 0);
        same("28 in the last step", x.inStep(Integer.MAX_VALUE), 0);
        same("29 waiting", x.waiting(), 2);
        x.setUnits('a', 2);
        stepsAre(x, "0 0 1 3 4", "3 0 1 3 4", "0 0 1 3 4", 5);
        same("28 in step 0 by two units", x.inStep(0), 2);
        x.setCycles('>', 5);
        stepsAre(x, "0 0 1 3 4", "3 0 1 3 4", "0 0 1 3 4", 9);

        stepsAre(Checks.of("a=1+i", "b=2+i"), "0 0", "0 0", "0 1", 2);
        // A node whose edge weighs less than nothing may begin ahead of another one, but not by lists.
        stepsAre(with(Checks.of(">=b", ">=a", "a=a+1"), "a", 5), "0 1 0", "3 4 0", "0 1 1", 6);
        stepsAre(Checks.of(">=a", "a=a+1"), "0 0", "0 0", "0 0", 1);
        stepsAre(with(Checks.of("a=<", "b=a*3", "c=a+b", ">=c"), "<m", 2, 3), "0 2 5 6", "0 2 5 6", "0 2 5 6", 7);
        same("27 length without nodes", new Schedulary().length(), 0);
        same("28 without nodes", new Schedulary().inStep(0), 0);
    }

    private static void waiting() {
        same("29 nobody uses", Checks.of("a=1", "b=2").waiting(), 0);
        // a is there in cycle 1, and used in it: by the next turn, so it waits up to the last cycle, 4.
        Schedulary x = with(Checks.of("a=a+1", "b=2+i", ">=b"), "m", 1);
        // Steps 0, 1, 2; a waits in 1 and 2, b in 2.
        same("26 steps", Checks.each(x, x::step), "1 0 1");
        // By late steps b is ahead: b waits in 1, and a, there in 2, has no cycle left.
        same("29 a turn behind uses it", x.waiting(), 1);
        x.setCycles('>', 4);
        // Now the length is 5, and a waits from 2 to 4, b in 1.
        same("29 up to the last cycle", x.waiting(), 1);
        x.setUnits('a', 2);
        // Now both are there in 1.
        same("29 both", x.waiting(), 2);

        Schedulary y = Checks.of("a=<", "b=<", "c=<", ">=a", ">=b", ">=c");
        // Made in 0, 1 and 2, used in 1, 2 and 3.
        same("26 steps of y", Checks.each(y, y::step), "0 1 2 1 2 3");
        same("29 one behind the other", y.waiting(), 1);
        Schedulary z = Checks.of("a=<", "b=<", "c=<", "d=a+b", "d=d+c", ">=d");
        // a waits in 1 and 2, b in 2, c in 3, the first d in 3, the second one in 4.
        same("26 steps of z", Checks.each(z, z::step), "0 1 2 2 3 4");
        same("29 two at once", z.waiting(), 2);
        // The register is used by the next turn alone: from 1 to the last cycle, 3, with both of the channel.
        Schedulary u = with(Checks.of(">=a", "a=1", ">=2", ">=3", ">=4"), "g", 1);
        same("26 steps of u", Checks.each(u, u::step), "0 0 1 2 3");
        same("29 next turn alone", u.waiting(), 1);
    }

    public static void main(String[] args) {
        kinds();
        statements();
        edgesByRegisters();
        edgesByMemories();
        edgesByChannels();
        steps();
        waiting();
        CHECKS.end("BodyTest");
    }
}
