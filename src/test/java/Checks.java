/** Counts answers that are not as due, prints them, and ends a test with exit code 1 if there was one. */
final class Checks {
    interface Call {
        Object answer();
    }

    private int wrong;
    private int asked;

    void same(String what, Object got, Object due) {
        asked++;
        if (!got.equals(due)) {
            wrong++;
            System.out.println(what + " answered " + got + ", due is " + due);
        }
    }

    void holds(String what, boolean isHolding) {
        same(what, isHolding, true);
    }

    void throwing(String what, Class<? extends RuntimeException> due, Call call) {
        Object got;
        try {
            got = call.answer();
        } catch (RuntimeException e) {
            got = e.getClass();
        }
        same(what, got, due);
    }

    void end(String test) {
        System.out.println(test + ": " + asked + " answers, " + wrong + " not as due");
        if (wrong != 0) {
            System.exit(1);
        }
    }

    static void typed(Schedulary x, String signs) {
        x.clear();
        for (int place = 0; place < signs.length(); place++) {
            x.type(signs.charAt(place));
        }
    }

    static Schedulary of(String... statements) {
        Schedulary x = new Schedulary();
        for (String statement : statements) {
            typed(x, statement);
            x.add();
        }
        return x;
    }

    /** What is due has all edges, as from>to@distance=weight: as many as there are, each with its weight. */
    void edgesAre(String what, Schedulary x, String due) {
        String[] edges = due.isEmpty() ? new String[0] : due.split(" ");
        same(what + ", how many edges of " + due, x.edges(), edges.length);
        for (String edge : edges) {
            String[] numbers = edge.split("[>@=]");
            Object weight;
            try {
                weight = x.weight(Integer.parseInt(numbers[0]), Integer.parseInt(numbers[1]),
                        Integer.parseInt(numbers[2]));
            } catch (RuntimeException e) {
                weight = e.getClass().getSimpleName();
            }
            same(what + ", " + edge + " of " + due, weight.toString(), numbers[3]);
        }
    }

    interface OfNode {
        Object answer(int node);
    }

    static String each(Schedulary x, OfNode call) {
        StringBuilder all = new StringBuilder();
        for (int node = 0; node < x.nodes(); node++) {
            all.append(node == 0 ? "" : " ").append(call.answer(node));
        }
        return all.toString();
    }

    static String outputsOf(Schedulary x) {
        StringBuilder all = new StringBuilder();
        for (int index = 0; index < x.outputs(); index++) {
            all.append(index == 0 ? "" : " ").append(x.output(index));
        }
        return all.toString();
    }

    static String circuitOutputsOf(Schedulary x) {
        StringBuilder all = new StringBuilder();
        for (int index = 0; index < x.circuitOutputs(); index++) {
            all.append(index == 0 ? "" : " ").append(x.circuitOutput(index));
        }
        return all.toString();
    }
}
