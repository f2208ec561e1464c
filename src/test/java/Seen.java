/** All that can be seen of an object: what it answers, and then, by changing it, what it was told. */
final class Seen {
    private static final String KINDS = "amgMN<>";
    private final StringBuilder all = new StringBuilder();
    private final Schedulary x;

    private Seen(Schedulary x) {
        this.x = x;
    }

    /** The object is changed by this: it is of no more use. */
    static String of(Schedulary x) {
        Seen seen = new Seen(x);
        seen.program();
        seen.body();
        seen.circuit();
        seen.processes();
        seen.told();
        return seen.all.toString();
    }

    /** What it answers, alone: this changes nothing. */
    static String answersOf(Schedulary x) {
        Seen seen = new Seen(x);
        seen.program();
        seen.body();
        seen.circuit();
        seen.processes();
        return seen.all.toString();
    }

    /** The answers that differ, or nothing. */
    static String difference(String one, String other) {
        String[] first = one.split("\n");
        String[] second = other.split("\n");
        StringBuilder differing = new StringBuilder();
        for (int row = 0; row < Math.max(first.length, second.length); row++) {
            String before = row < first.length ? first[row] : "nothing";
            String now = row < second.length ? second[row] : "nothing";
            if (!before.equals(now)) {
                differing.append(before).append(" became ").append(now).append("; ");
            }
        }
        return differing.toString();
    }

    private void see(String what, Checks.Call call) {
        Object answer;
        try {
            answer = call.answer();
        } catch (RuntimeException e) {
            answer = e.getClass().getSimpleName();
        }
        all.append(what).append(' ').append(answer).append('\n');
    }

    private void program() {
        see("fault", x::fault);
        see("outputs", x::outputs);
        for (int index = 0; index < x.outputs(); index++) {
            int at = index;
            see("output " + at, () -> x.output(at));
        }
        for (int place = 0; place < 16; place++) {
            int at = place;
            see("M " + at, () -> x.memoryAt('M', at));
            see("N " + at, () -> x.memoryAt('N', at));
        }
        for (char register = 'a'; register <= 'h'; register++) {
            char at = register;
            see("register " + at, () -> x.register(at));
        }
        see("taken", x::taken);
    }

    private void body() {
        see("nodes", x::nodes);
        for (int node = 0; node < x.nodes(); node++) {
            int at = node;
            see("kindOf " + at, () -> x.kindOf(at));
            see("statementOf " + at, () -> x.statementOf(at));
            see("soon " + at, () -> x.soon(at));
            see("late " + at, () -> x.late(at));
            see("step " + at, () -> x.step(at));
            see("place " + at, () -> x.place(at));
        }
        see("edges", x::edges);
        see("length", x::length);
        see("inStep 0", () -> x.inStep(0));
        see("waiting", x::waiting);
        see("checksum", x::checksum);
        see("meanStep", x::meanStep);
    }

    private void circuit() {
        see("byRings", x::byRings);
        see("byUnits", x::byUnits);
        see("interval", x::interval);
        see("binds", x::binds);
        see("cycles", x::cycles);
        see("oneByOne", x::oneByOne);
        for (char kind : KINDS.toCharArray()) {
            see("busyShare " + kind, () -> x.busyShare(kind));
        }
        see("circuitOutputs", x::circuitOutputs);
        see("isSame", x::isSame);
        see("isSound", x::isSound);
    }

    private void processes() {
        see("done", x::done);
        for (int process = 0; process < 4; process++) {
            int at = process;
            see("waitsFor " + at, () -> x.waitsFor(at));
        }
        see("areLocked", x::areLocked);
        see("leastDepth", x::leastDepth);
    }

    // Each of these tells how it was before; a statement in the buffer shows by what the program gives with it.
    private void told() {
        see("bits", () -> x.setBits(16));
        for (int place = 0; place < 16; place++) {
            int at = place;
            see("told M " + at, () -> x.setMemory('M', at, 0));
            see("told N " + at, () -> x.setMemory('N', at, 0));
        }
        for (char kind : KINDS.toCharArray()) {
            see("units " + kind, () -> x.setUnits(kind, 1));
            see("cycles " + kind, () -> x.setCycles(kind, 1));
        }
        for (int number = 0; number < 4; number++) {
            int at = number;
            see("depth " + at, () -> x.setDepth(at, 1));
            see("actions " + at, () -> x.action(at, at, true));
        }
        see("add", x::add);
        see("nodes with the buffer", x::nodes);
        see("checksum with the buffer", x::checksum);
        see("outputs with the buffer", x::outputs);
        see("h with the buffer", () -> x.register('h'));
        see("buffer", x::clear);
        see("inputs", () -> x.input(0));
        see("factor 1", () -> x.unroll(1));
        see("turns", () -> x.setTurns(1));
    }
}
