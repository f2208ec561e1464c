import java.util.ArrayList;
import java.util.List;

/** Each answer is by what was told until then: asked alone, behind all others, and behind each change. */
public final class ChangesTest {
    private static final Checks CHECKS = new Checks();
    private static final String KINDS = "amgMN<>";

    interface Call {
        Object answer(Schedulary x);
    }

    private static final List<String> NAMES = new ArrayList<>();
    private static final List<Call> ASKED = new ArrayList<>();

    private static void ask(String name, Call call) {
        NAMES.add(name);
        ASKED.add(call);
    }

    private static void allThatIsAsked() {
        ask("14 outputs", Schedulary::outputs);
        ask("15 output", x -> x.output(7));
        ask("16 memoryAt", x -> x.memoryAt('N', 3));
        ask("17 register", x -> x.register('b'));
        ask("18 taken", Schedulary::taken);
        ask("19 nodes", Schedulary::nodes);
        ask("20 kindOf", x -> x.kindOf(13));
        ask("21 statementOf", x -> x.statementOf(13));
        ask("22 edges", Schedulary::edges);
        ask("23 weight", x -> x.weight(3, 5, 0));
        ask("24 soon", x -> x.soon(13));
        ask("25 late", x -> x.late(13));
        ask("26 step", x -> x.step(13));
        ask("27 length", Schedulary::length);
        ask("28 inStep", x -> x.inStep(2));
        ask("29 waiting", Schedulary::waiting);
        ask("30 byRings", Schedulary::byRings);
        ask("31 byUnits", Schedulary::byUnits);
        ask("32 interval", Schedulary::interval);
        ask("33 binds", Schedulary::binds);
        ask("34 place", x -> x.place(13));
        ask("35 cycles", Schedulary::cycles);
        ask("36 oneByOne", Schedulary::oneByOne);
        ask("37 circuitOutputs", Schedulary::circuitOutputs);
        ask("38 circuitOutput", x -> x.circuitOutput(7));
        ask("39 circuitMemory", x -> x.circuitMemory('N', 3));
        ask("40 isSame", Schedulary::isSame);
        ask("43 done", Schedulary::done);
        ask("44 waitsFor", x -> x.waitsFor(0));
        ask("45 areLocked", Schedulary::areLocked);
        ask("46 leastDepth", Schedulary::leastDepth);
        ask("47 checksum", Schedulary::checksum);
        ask("48 busyShare", x -> x.busyShare('a'));
        ask("49 meanStep", Schedulary::meanStep);
        ask("50 isSound", Schedulary::isSound);
    }

    private static void adds(Schedulary x, String statement) {
        Checks.typed(x, statement);
        x.add();
    }

    /** Statements are added last of all, so nothing is reckoned yet; processes are locked if they end with a wait. */
    private static Schedulary told(boolean isLocked) {
        Schedulary x = new Schedulary();
        x.setTurns(6);
        x.unroll(2);
        for (int value : new int[] {9, 300, 4, 60}) {
            x.input(value);
        }
        x.setMemory('N', 3, 700);
        x.setCycles('m', 3);
        x.setCycles('N', 2);
        x.setDepth(0, 3);
        x.action(0, 0, true);
        x.action(0, 0, true);
        x.action(0, 1, true);
        x.action(0, 2, false);
        if (!isLocked) {
            x.action(3, 2, true);
        }
        adds(x, "a=<*b");
        adds(x, "N[i]=N[i+1]-a");
        adds(x, ">=a");
        adds(x, "b=b+1");
        adds(x, ">=blN[3]");
        return x;
    }

    private static Object answerOf(Call call, Schedulary x) {
        try {
            return call.answer(x);
        } catch (RuntimeException e) {
            return e.getClass().getSimpleName();
        }
    }

    private static void eachIsAskedAloneAndBehindOthers(boolean isLocked) {
        Schedulary forth = told(isLocked);
        Schedulary back = told(isLocked);
        Object[] alone = new Object[ASKED.size()];
        for (int call = 0; call < alone.length; call++) {
            alone[call] = answerOf(ASKED.get(call), told(isLocked));
            CHECKS.same(NAMES.get(call) + " behind others", answerOf(ASKED.get(call), forth), alone[call]);
            CHECKS.same(NAMES.get(call) + " again", answerOf(ASKED.get(call), forth), alone[call]);
        }
        for (int call = alone.length - 1; call >= 0; call--) {
            CHECKS.same(NAMES.get(call) + " ahead of others", answerOf(ASKED.get(call), back), alone[call]);
            CHECKS.same(NAMES.get(call) + " behind all", answerOf(ASKED.get(call), forth), alone[call]);
        }
    }

    /** What was reckoned by hand: that the answers alone are no more than those that stand at first. */
    private static void someAnswersAlone() {
        CHECKS.same("19 alone", told(true).nodes(), 20);
        CHECKS.same("20 alone", told(true).kindOf(13), 'a');
        CHECKS.same("21 alone", told(true).statementOf(13), 6);
        CHECKS.same("30 alone", told(true).byRings() > 1, true);
        CHECKS.same("31 alone", told(true).byUnits(), 6);
        CHECKS.same("36 alone", told(true).oneByOne(), 3 * 2 * (1 + 3 + 2 + 1 + 2 + 1 + 1 + 2 + 1 + 1));
        CHECKS.same("43 alone", told(true).done(), 3);
        CHECKS.same("44 alone", told(true).waitsFor(0), 2);
        CHECKS.same("45 alone", told(true).areLocked(), true);
        CHECKS.same("43 alone, not locked", told(false).done(), 5);
        CHECKS.same("44 alone, not locked", told(false).waitsFor(0), -1);
        CHECKS.same("45 alone, not locked", told(false).areLocked(), false);
        CHECKS.same("46 alone, not locked", told(false).leastDepth(), 2);
    }

    private static List<Call> allChanges() {
        List<Call> changes = new ArrayList<>();
        for (String statement : new String[] {"a=1", "N[i]=<", ">=N[i+3]*<", "b=M[0]", "a=a+b", "M[i-1]=b^3", "h=h"}) {
            for (int number = 0; number < 5; number++) {
                int at = number;
                changes.add(x -> {
                    Checks.typed(x, statement);
                    return x.replace(at);
                });
            }
            changes.add(x -> {
                Checks.typed(x, statement);
                return x.add();
            });
        }
        for (int turns : new int[] {2, 4, 8, 16}) {
            changes.add(x -> x.setTurns(turns));
        }
        for (int bits : new int[] {1, 4, 7, 9, 16}) {
            changes.add(x -> x.setBits(bits));
        }
        changes.add(x -> x.unroll(1));
        changes.add(x -> x.unroll(3));
        changes.add(x -> x.input(77));
        for (int place = 0; place < 8; place++) {
            int at = place;
            changes.add(x -> x.setMemory('N', at, 133));
            changes.add(x -> x.setMemory('M', at, 133));
        }
        for (char kind : KINDS.toCharArray()) {
            for (int number = 1; number <= 5; number++) {
                int to = number;
                changes.add(x -> x.setCycles(kind, to));
                if (number <= ("<>".indexOf(kind) < 0 ? 4 : 1)) {
                    changes.add(x -> x.setUnits(kind, to));
                }
            }
        }
        for (int number = 0; number < 4; number++) {
            int at = number;
            changes.add(x -> x.setDepth(at, 1));
            changes.add(x -> x.setDepth(at, 16));
            changes.add(x -> x.action(at, 2, true));
            changes.add(x -> x.action(at, 1, false));
        }
        return changes;
    }

    private static void eachChangeIsSeenByWhatIsAskedBehindIt() {
        List<Call> changes = allChanges();
        for (int number = 0; number < changes.size(); number++) {
            Call change = changes.get(number);
            Schedulary asked = told(true);
            for (Call call : ASKED) {
                answerOf(call, asked);
            }
            change.answer(asked);
            Schedulary never = told(true);
            change.answer(never);
            CHECKS.same("change " + number, Seen.difference(Seen.answersOf(never), Seen.answersOf(asked)), "");
        }
    }

    private static void eachCallSeesEachChange() {
        List<Call> changes = allChanges();
        for (int call = 0; call < ASKED.size(); call++) {
            for (int number = 0; number < changes.size(); number++) {
                Schedulary asked = told(true);
                answerOf(ASKED.get(call), asked);
                changes.get(number).answer(asked);
                Schedulary never = told(true);
                changes.get(number).answer(never);
                CHECKS.same(NAMES.get(call) + " behind change " + number,
                        answerOf(ASKED.get(call), asked), answerOf(ASKED.get(call), never));
            }
        }
    }

    private static void aGreatBodyLeavesNothingInASmallOne() {
        Schedulary x = Checks.of("a=a*M[i]", ">=a&<", "N[i]=a-b", "b=b+<");
        for (char kind : KINDS.toCharArray()) {
            x.setCycles(kind, 5);
        }
        x.unroll(4);
        x.isSound();
        x.waiting();
        x.checksum();
        x.unroll(1);
        for (char kind : KINDS.toCharArray()) {
            x.setCycles(kind, 1);
        }
        String[] others = {"a=i", ">=a", "b=1", "c=c+1"};
        for (int statement = 0; statement < 4; statement++) {
            Checks.typed(x, others[statement]);
            x.replace(statement);
        }
        CHECKS.same("a small body", Seen.difference(Seen.answersOf(Checks.of(others)), Seen.answersOf(x)), "");
    }

    private static void aLongerBodyLeavesNoWaitingValues() {
        Schedulary x = Checks.of(">=a+b", "a=1", "b=2");
        x.setCycles('>', 5);
        x.setUnits('g', 2);
        CHECKS.same("29 both wait", x.waiting(), 2);
        x.setCycles('>', 1);
        Checks.typed(x, ">=a");
        x.replace(0);
        CHECKS.same("29 no cycle is left", x.waiting(), 0);
        Schedulary y = Checks.of("a=i", ">=<*a");
        y.setCycles('>', 5);
        CHECKS.same("29 one waits", y.waiting(), 1);
        Checks.typed(y, ">=5");
        y.replace(1);
        CHECKS.same("29 nobody uses it now", y.waiting(), 0);
    }

    private static void whatBindsIsAskedAlone() {
        CHECKS.same("33 a unit", Checks.of("a=1", "b=2").binds(), 'g');
        Schedulary x = Checks.of("a=1");
        CHECKS.same("33 a unit by one", x.binds(), 'g');
        Checks.typed(x, "a=a+1");
        x.replace(0);
        CHECKS.same("33 another unit", x.binds(), 'a');
        x.setCycles('a', 2);
        CHECKS.same("33 a ring", x.binds(), 'r');
    }

    private static void aTextLeavesNothingInTheNextOne() {
        String[] befores = {"a=b*c", "M[i+7]=N[i-3]+M[9]", ">=h", "N[15]=99-99", "g=<l<", "h=i|i", "M[i-7]=M[i",
            "b=77+"};
        String[] statements = {"M[i]=N[i]", "N[i]=M[0]^N[i]", "a=a", "a=0", ">=i", "M[0]=<", "a=b-M[i]", "d=c|0"};
        for (String before : befores) {
            for (String statement : statements) {
                Schedulary x = Checks.of("a=a+1", "b=b+3", "N[i]=b", "M[i]=a");
                Checks.typed(x, before);
                x.fault();
                Checks.typed(x, statement);
                x.add();
                Checks.typed(x, before);
                x.fault();
                x.clear();
                Schedulary due = Checks.of("a=a+1", "b=b+3", "N[i]=b", "M[i]=a", statement);
                String what = statement + " behind " + before;
                CHECKS.same(what, Seen.difference(Seen.answersOf(due), Seen.answersOf(x)), "");
            }
        }
    }

    public static void main(String[] args) {
        allThatIsAsked();
        eachIsAskedAloneAndBehindOthers(true);
        eachIsAskedAloneAndBehindOthers(false);
        someAnswersAlone();
        eachChangeIsSeenByWhatIsAskedBehindIt();
        eachCallSeesEachChange();
        aGreatBodyLeavesNothingInASmallOne();
        aLongerBodyLeavesNoWaitingValues();
        whatBindsIsAskedAlone();
        aTextLeavesNothingInTheNextOne();
        CHECKS.end("ChangesTest");
    }
}
