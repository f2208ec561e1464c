import java.util.NoSuchElementException;

/** Promises 41 to 46: processes and channels. */
public final class ProcessTest {
    private static final Checks CHECKS = new Checks();
    private static final Class<IllegalArgumentException> ARGUMENT = IllegalArgumentException.class;

    private static void same(String what, Object got, Object due) {
        CHECKS.same(what, got, due);
    }

    private static void throwing(String what, Class<? extends RuntimeException> due, Checks.Call call) {
        CHECKS.throwing(what, due, call);
    }

    /** Rows of actions, one for each process: p2 puts into 2, t2 takes from it. */
    private static Schedulary of(String... rows) {
        Schedulary x = new Schedulary();
        for (int process = 0; process < rows.length; process++) {
            for (int place = 0; place + 1 < rows[process].length(); place += 2) {
                int channel = rows[process].charAt(place + 1) - '0';
                same("41 action", x.action(process, channel, rows[process].charAt(place) == 'p'), place / 2 + 1);
            }
        }
        return x;
    }

    private static void endsAre(Schedulary x, int done, String waits) {
        same("43 done", x.done(), done);
        StringBuilder all = new StringBuilder();
        for (int process = 0; process < 4; process++) {
            all.append(process == 0 ? "" : " ").append(x.waitsFor(process));
        }
        same("44 waitsFor", all.toString(), waits);
        same("45 areLocked", x.areLocked(), !waits.equals("-1 -1 -1 -1"));
    }

    private static void wrongCalls() {
        Schedulary x = new Schedulary();
        throwing("41 process -1", ARGUMENT, () -> x.action(-1, 0, true));
        throwing("41 process 4", ARGUMENT, () -> x.action(4, 0, true));
        throwing("41 channel -1", ARGUMENT, () -> x.action(0, -1, false));
        throwing("41 channel 4", ARGUMENT, () -> x.action(0, 4, false));
        for (int count = 1; count <= 16; count++) {
            same("41 action", x.action(3, 3, true), count);
        }
        throwing("41 a 17th", IllegalStateException.class, () -> x.action(3, 3, true));
        throwing("41 a 17th for no channel", ARGUMENT, () -> x.action(3, 4, true));
        same("41 another process", x.action(0, 3, true), 1);
        throwing("42 channel -1", ARGUMENT, () -> x.setDepth(-1, 1));
        throwing("42 channel 4", ARGUMENT, () -> x.setDepth(4, 1));
        throwing("42 depth 0", ARGUMENT, () -> x.setDepth(0, 0));
        throwing("42 depth 17", ARGUMENT, () -> x.setDepth(0, 17));
        same("42 depth 16", x.setDepth(3, 16), 1);
        same("43 process 0 is ahead", x.waitsFor(0), -1);
        same("44 one is left", x.waitsFor(3), 3);
        same("42 depth before", x.setDepth(3, 2), 16);
        endsAre(x, 2, "-1 -1 -1 3");
        throwing("44 process -1", ARGUMENT, () -> x.waitsFor(-1));
        throwing("44 process 4", ARGUMENT, () -> x.waitsFor(4));
        throwing("46 17 are never held", NoSuchElementException.class, x::leastDepth);
    }

    private static void runs() {
        endsAre(new Schedulary(), 0, "-1 -1 -1 -1");
        same("46 without actions", new Schedulary().leastDepth(), 1);
        endsAre(of("p0", "t0"), 2, "-1 -1 -1 -1");
        endsAre(of("t0", "p0"), 2, "-1 -1 -1 -1");
        endsAre(of("t0p1", "t1p0"), 0, "0 1 -1 -1");
        throwing("46 both wait first", NoSuchElementException.class, () -> of("t0p1", "t1p0").leastDepth());
        endsAre(of("t2"), 0, "2 -1 -1 -1");
        endsAre(of("p1p1"), 1, "1 -1 -1 -1");
        endsAre(of("p1t1p1t1"), 4, "-1 -1 -1 -1");
        endsAre(of("", "", "p3p3p3", "t3t3t3"), 6, "-1 -1 -1 -1");

        Schedulary x = of("p0p0p1", "t1t0t0");
        endsAre(x, 1, "0 1 -1 -1");
        same("46 two are held", x.leastDepth(), 2);
        x.setDepth(0, 2);
        endsAre(x, 6, "-1 -1 -1 -1");
        same("46 does not ask for depths", x.leastDepth(), 2);
        // Who comes first takes what is there: process 1 does, and 2 waits.
        endsAre(of("p0", "t0", "t0"), 2, "-1 -1 0 -1");
        // They go round by numbers: 0 puts, 1 takes it, 2 puts, then 0 again must wait, as 1 is done.
        endsAre(of("p0p0", "t0", "p0"), 3, "0 -1 -1 -1");
        // Each does all that it can ahead of the next one: with depth 1, 0 puts one and waits.
        Schedulary y = of("p0p0p1", "t0p2", "t0p2", "t1t2t2");
        endsAre(y, 10, "-1 -1 -1 -1");
        // A greater depth may lock: 3 takes what 0 put, or is ahead of it.
        Schedulary z = of("p0p0t1", "t0t0p1");
        endsAre(z, 6, "-1 -1 -1 -1");
        same("46 by one", z.leastDepth(), 1);
        same("46 by 16", of("p0p0p0p0p0p0p0p0p0p0p0p0p0p0p0p0").leastDepth(), 16);
        same("46 by 3", of("p0p0p0p1", "t1t0t0t0").leastDepth(), 3);
        // One value goes round from 3 to 2, 1 and 0, eight times; each step down waits for another round.
        endsAre(of("t0p3".repeat(8), "t1p0".repeat(8), "t2p1".repeat(8), "p2t3".repeat(8)), 64, "-1 -1 -1 -1");
        // Depths differ: the channel 1 alone is deep enough.
        Schedulary u = of("p0p1p1t0");
        endsAre(u, 2, "1 -1 -1 -1");
        u.setDepth(1, 2);
        endsAre(u, 4, "-1 -1 -1 -1");
    }

    public static void main(String[] args) {
        wrongCalls();
        runs();
        CHECKS.end("ProcessTest");
    }
}
