import java.util.NoSuchElementException;

/** Promises 41 to 46 with their Terms: what is least and greatest, empty and full, and who waits. */
public final class ProcessLimitsTest {
    private static final Checks CHECKS = new Checks();

    private static void same(String what, Object got, Object due) {
        CHECKS.same(what, got, due);
    }

    /** A row of actions for each process: p2 puts into the channel 2, t2 takes from it. */
    private static Schedulary of(String... rows) {
        Schedulary x = new Schedulary();
        for (int process = 0; process < rows.length; process++) {
            for (int place = 0; place < rows[process].length(); place += 2) {
                x.action(process, rows[process].charAt(place + 1) - '0', rows[process].charAt(place) == 'p');
            }
        }
        return x;
    }

    private static void ends(String what, Schedulary x, int done, int... waits) {
        same("43 " + what, x.done(), done);
        boolean isSomeLeft = false;
        for (int process = 0; process < 4; process++) {
            same("44 " + what + ", process " + process, x.waitsFor(process), waits[process]);
            isSomeLeft = isSomeLeft || waits[process] >= 0;
        }
        same("45 " + what, x.areLocked(), isSomeLeft);
    }

    private static void least(String what, Schedulary x, int depth) {
        if (depth > 16) {
            CHECKS.throwing("46 " + what, NoSuchElementException.class, x::leastDepth);
        } else {
            same("46 " + what, x.leastDepth(), depth);
        }
    }

    private static void withoutActionsAllIsDone() {
        Schedulary x = new Schedulary();
        ends("without actions", x, 0, -1, -1, -1, -1);
        least("without actions", x, 1);
        x.setDepth(0, 16);
        least("without actions, deep", x, 1);
        Schedulary y = of("", "p0", "", "");
        ends("three without actions", y, 1, -1, -1, -1, -1);
    }

    private static void eachProcessHasUpToSixteenActions() {
        for (int process = 0; process < 4; process++) {
            Schedulary x = new Schedulary();
            int at = process;
            for (int action = 1; action <= 16; action++) {
                same("41 how many " + at, x.action(at, action % 4, action % 2 == 0), action);
            }
            CHECKS.throwing("41 a 17th of " + at, IllegalStateException.class, () -> x.action(at, 0, true));
            for (int other = 0; other < 4; other++) {
                if (other != at) {
                    same("41 another one has its own", x.action(other, 3, false), 1);
                }
            }
        }
        String full = "p0t0".repeat(8);
        ends("all full", of(full, full.replace('0', '1'), full.replace('0', '2'), full.replace('0', '3')),
                64, -1, -1, -1, -1);
        ends("the last of 16 waits", of("p0t0".repeat(7) + "p0p0"), 15, 0, -1, -1, -1);
    }

    private static void depthsAreOneToSixteen() {
        for (int channel = 0; channel < 4; channel++) {
            Schedulary x = new Schedulary();
            for (int action = 0; action < 16; action++) {
                x.action(channel, channel, true);
            }
            int before = 1;
            int[] waits = {-1, -1, -1, -1};
            for (int depth = 1; depth <= 16; depth++) {
                same("42 the depth before", x.setDepth(channel, depth), before);
                waits[channel] = depth < 16 ? channel : -1;
                ends("as many as it can hold: " + depth, x, depth, waits);
                before = depth;
            }
            same("42 the same again", x.setDepth(channel, 16), 16);
            least("16 are held by 16", x, 16);
            same("42 down again", x.setDepth(channel, 1), 16);
            same("43 down again", x.done(), 1);
        }
    }

    private static void depthsAreOfTheirChannelAlone() {
        for (int channel = 0; channel < 4; channel++) {
            Schedulary x = of("p" + channel + "p" + channel);
            for (int other = 0; other < 4; other++) {
                x.setDepth(other, other == channel ? 1 : 16);
            }
            ends("one deep: " + channel, x, 1, channel, -1, -1, -1);
            x.setDepth(channel, 2);
            ends("two deep: " + channel, x, 2, -1, -1, -1, -1);
        }
    }

    private static void whoFindsNoneOrFullWaits() {
        for (int channel = 0; channel < 4; channel++) {
            for (int process = 0; process < 4; process++) {
                String[] rows = {"", "", "", ""};
                int[] waits = {-1, -1, -1, -1};
                rows[process] = "t" + channel;
                waits[process] = channel;
                ends("takes from none", of(rows), 0, waits);
                least("takes from none", of(rows), 17);
                rows[process] = "p" + channel + "p" + channel;
                ends("puts into a full one", of(rows), 1, waits);
                least("puts into a full one", of(rows), 2);
                rows[process] = "p" + channel;
                waits[process] = -1;
                ends("what is put may stay", of(rows), 1, waits);
                least("what is put may stay", of(rows), 1);
                rows[process] = "p" + channel + "t" + channel;
                ends("takes what it put", of(rows), 2, waits);
            }
        }
        ends("none is left for a second one", of("p0t0t0"), 2, 0, -1, -1, -1);
        ends("full until one is taken", of("p0p0", "t0"), 3, -1, -1, -1, -1);
        ends("all wait", of("t0", "t1", "t2", "t3"), 0, 0, 1, 2, 3);
        ends("another channel holds one", of("p1t0"), 1, 0, -1, -1, -1);
    }

    private static void theyGoRoundByNumbers() {
        ends("the one behind takes first", of("p0", "t0", "t0", "t0"), 2, -1, -1, 0, 0);
        ends("the one ahead is next in the round behind", of("t0", "p0", "t0"), 2, 0, -1, -1, -1);
        ends("the one behind is ahead of the next round", of("t0", "t0", "p0", "t0"), 2, 0, 0, -1, -1);
        // 3 puts, then 0 takes it in the next round and puts for 1, and so on, down the numbers.
        ends("round and round", of("t3p0", "t0p1", "t1p2", "p3t2"), 8, -1, -1, -1, -1);
        ends("against the numbers", of("t1", "t2p1", "t3p2", "p3"), 6, -1, -1, -1, -1);
        // Each does its actions until one must wait: 0 puts both ahead of 1.
        Schedulary x = of("p0p0", "p0", "t0t0t0");
        ends("one deep", x, 6, -1, -1, -1, -1);
        x.setDepth(0, 2);
        ends("two deep", x, 6, -1, -1, -1, -1);
        // Action by action in turn, 2 would get one of these, and 1 would put one.
        Schedulary y = of("p0p0", "t0t0", "t0");
        y.setDepth(0, 2);
        ends("one takes until it must wait", y, 4, -1, -1, 0, -1);
        Schedulary z = of("p0p0", "p0");
        z.setDepth(0, 2);
        ends("one puts until it must wait", z, 2, -1, 0, -1, -1);
        // One value goes down the numbers eight times: each step of it needs another round.
        ends("the most rounds", of("t0p3".repeat(8), "t1p0".repeat(8), "t2p1".repeat(8), "p2t3".repeat(8)),
                64, -1, -1, -1, -1);
    }

    private static void lockedIfSomeActionIsLeft() {
        ends("each waits for the other", of("t0p1", "t1p0"), 0, 0, 1, -1, -1);
        least("each waits for the other", of("t0p1", "t1p0"), 17);
        ends("one puts first", of("p1t0", "t1p0"), 4, -1, -1, -1, -1);
        ends("the last action is left", of("p0p1p2p3t3t2t1t0t0"), 8, 0, -1, -1, -1);
        ends("both put too much", of("p0p0t1", "p1p1t0"), 2, 0, 1, -1, -1);
        least("both put too much", of("p0p0t1", "p1p1t0"), 2);
    }

    private static void theLeastDepthOfAllChannels() {
        for (int depth = 1; depth <= 15; depth++) {
            Schedulary x = of("p0".repeat(depth) + "p1", "t1" + "t0".repeat(depth));
            least("ahead of what is awaited " + depth, x, depth);
            ends("by their own depths", x, depth > 1 ? 1 : 4, depth > 1 ? new int[] {0, 1, -1, -1} : new int[] {-1, -1,
                    -1, -1});
            x.setDepth(0, 16);
            ends("by a depth of its own", x, 2 * depth + 2, -1, -1, -1, -1);
            least("whatever the depths are", x, depth);
        }
        least("16 by one process", of("p0".repeat(16)), 16);
        least("17 by two processes", of("p0".repeat(16), "p0"), 17);
        least("17, of which one is taken", of("p0".repeat(16), "p0", "t0"), 16);
        least("17 taken, 16 put", of("p0".repeat(16), "t0".repeat(16), "t0"), 17);
        least("the deepest of four", of("p0p1p1p2p2p2p3p3p3p3"), 4);
    }

    public static void main(String[] args) {
        withoutActionsAllIsDone();
        eachProcessHasUpToSixteenActions();
        depthsAreOneToSixteen();
        depthsAreOfTheirChannelAlone();
        whoFindsNoneOrFullWaits();
        theyGoRoundByNumbers();
        lockedIfSomeActionIsLeft();
        theLeastDepthOfAllChannels();
        CHECKS.end("ProcessLimitsTest");
    }
}
