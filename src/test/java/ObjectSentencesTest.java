/** A test for each sentence about a whole object: how long it is used, and what it has at first. */
public final class ObjectSentencesTest {
    public static void main(String[] args) {
        isUsedForLoads();
        isUsedForRules();
        isUsedForRings();
        isUsedForAllCalls();
        hasNoRule();
        hasNoText();
        answersNoneWithoutRule();
        answersNoneBehindFault();
        loadsAndReadsWithoutRule();
        hasRingWithoutRule();
        Check.end();
    }

    /** An object is used for at most 512 calls after it has been made: the last of them answers too. */
    private static void isUsedForLoads() {
        Check.sentence("An object is used for at most 512 calls: load()");
        LineRules x = new LineRules();
        for (int call = 1; call <= 512; call++) {
            Check.due("call " + call, x.load('a'), call <= 64 ? call : -2);
        }
    }

    private static void isUsedForRules() {
        Check.sentence("An object is used for at most 512 calls: rule()");
        LineRules x = new LineRules();
        for (int call = 5; call <= 512; call += 5) {
            Check.due("call " + call, Check.read(x, call % 2 == 0 ? "21Ea" : "31Eb"), call % 2 == 0 ? 2 : -13);
        }
        LineRules y = new LineRules();
        for (int call = 1; call <= 512; call++) {
            Check.due("call " + call, y.rule(), -10);
        }
    }

    private static void isUsedForRings() {
        Check.sentence("An object is used for at most 512 calls: the ring");
        LineRules x = Check.with("43Ea");
        for (int call = 6; call <= 512; call++) {
            Check.due("call " + call, x.ring(1 + call % 64), call == 6 ? 1 : 1 + (call - 1) % 64);
        }
        LineRules y = Check.with("43Ea");
        for (int call = 6; call <= 512; call++) {
            Check.due("call " + call, y.set(0, call % 4), call == 6 ? 0 : (call - 1) % 4);
        }
        LineRules z = Check.with("21E!a");
        for (int call = 7; call <= 512; call++) {
            Check.due("call " + call, z.step(199), 1);
        }
    }

    private static void isUsedForAllCalls() {
        Check.sentence("An object is used for at most 512 calls: all of them");
        LineRules x = Check.with("22Eb");
        Check.due("call 6", x.ring(2), 1);
        Check.due("call 7", x.set(1, 1), 0);
        for (int call = 8; call + 14 <= 512; call += 14) {
            Check.due("get", x.get(1), 1);
            Check.due("next", x.next(1), 1);
            Check.due("population", x.population(1), 1);
            Check.due("step", x.step(200), 0);
            Check.due("surjective", x.surjective(), 1);
            Check.due("injective", x.injective(), 1);
            Check.due("inverse", x.inverse(1), 1);
            Check.due("undo", x.undo(1), 1);
            Check.due("conserved", x.conserved(), 1);
            Check.due("weight", x.weight(0, 1), 1);
            Check.due("orphan", x.orphan(), 0);
            Check.due("before", x.before(), 1);
            Check.due("beforeAt", x.beforeAt(0), 1);
            Check.due("ways", x.ways(), 1);
        }
    }

    private static void hasNoRule() {
        Check.sentence("Promise 1: No rule");
        Check.due("next(0)", new LineRules().next(0), -1);
        Check.due("conserved()", new LineRules().conserved(), -1);
        LineRules other = Check.with("21T11");
        Check.due("next(0) of another object", other.next(0), 1);
        Check.due("next(0) beside another object", new LineRules().next(0), -1);
    }

    private static void hasNoText() {
        Check.sentence("Promise 1: no text");
        Check.due("rule()", new LineRules().rule(), -10);
        Check.due("load('2')", new LineRules().load('2'), 1);
        LineRules other = new LineRules();
        Check.load(other, "21T01");
        Check.due("rule() beside another object", new LineRules().rule(), -10);
        Check.due("rule() of the other object", other.rule(), 2);
    }

    private static void answersNoneWithoutRule() {
        Check.sentence("Without a rule (at first), all calls but load(), rule(), ring() and get() answer NONE");
        int[] numbers = {0, 1, 2, 3, -1, 64, 200, 201, Check.LEAST, Check.MOST};
        for (int n : numbers) {
            allAreNone(new LineRules(), n);
        }
        LineRules x = new LineRules();
        Check.load(x, "21T01");
        allAreNone(x, 0);
        Check.due("rule()", x.rule(), 2);
    }

    private static void answersNoneBehindFault() {
        Check.sentence("Without a rule all calls answer NONE, also when a text had a fault");
        for (String text : new String[] {"", "2", "22", "22T", "22T010", "22T01010", "22Ea+", "22Ea=b=a", "33S0120123"}) {
            LineRules x = new LineRules();
            Check.isTrue("rule of " + text, Check.read(x, text) <= -10);
            allAreNone(x, 0);
            allAreNone(x, 1);
        }
    }

    private static void allAreNone(LineRules x, int n) {
        Check.due("next(" + n + ")", x.next(n), -1);
        Check.due("set(" + n + ", 0)", x.set(n, 0), -1);
        Check.due("set(0, " + n + ")", x.set(0, n), -1);
        Check.due("step(" + n + ")", x.step(n), -1);
        Check.due("population(" + n + ")", x.population(n), -1);
        Check.due("surjective()", x.surjective(), -1);
        Check.due("injective()", x.injective(), -1);
        Check.due("inverse(" + n + ")", x.inverse(n), -1);
        Check.due("undo(" + n + ")", x.undo(n), -1);
        Check.due("conserved()", x.conserved(), -1);
        Check.due("weight(" + n + ", 0)", x.weight(n, 0), -1);
        Check.due("weight(0, " + n + ")", x.weight(0, n), -1);
        Check.due("orphan()", x.orphan(), -1);
        Check.due("orphanAt(" + n + ")", x.orphanAt(n), -1);
        Check.due("before()", x.before(), -1);
        Check.due("beforeAt(" + n + ")", x.beforeAt(n), -1);
        Check.due("ways()", x.ways(), -1L);
        Check.due("the cell stays", x.get(0), 0);
        Check.due("the ring stays", x.get(1), -1);
    }

    private static void loadsAndReadsWithoutRule() {
        Check.sentence("Without a rule (at first) .. but load(), rule()");
        LineRules x = new LineRules();
        Check.due("load(31)", x.load(31), -1);
        for (int i = 1; i <= 64; i++) {
            Check.due("load", x.load('2'), i);
        }
        Check.due("load", x.load('2'), -2);
        Check.due("rule()", x.rule(), -12);
        Check.due("rule()", x.rule(), -10);
        Check.due("rule()", Check.read(x, "41T3210"), 4);
        Check.due("next(0)", x.next(0), 3);
    }

    private static void hasRingWithoutRule() {
        Check.sentence("Without a rule (at first) .. but ring() and get()");
        LineRules x = new LineRules();
        Check.due("get(0)", x.get(0), 0);
        Check.due("get(1)", x.get(1), -1);
        Check.due("ring(0)", x.ring(0), -1);
        Check.due("ring(64)", x.ring(64), 1);
        Check.due("ring(65)", x.ring(65), -1);
        Check.due("get(63)", x.get(63), 0);
        Check.due("get(64)", x.get(64), -1);
        Check.due("get(-1)", x.get(-1), -1);
        Check.due("set(63, 1)", x.set(63, 1), -1);
        Check.due("get(63)", x.get(63), 0);
        Check.due("ring(5)", x.ring(5), 64);
        Check.due("rule()", Check.read(x, "21T01"), 2);
        Check.due("the ring is kept", x.population(0), 5);
        Check.due("ring(6)", x.ring(6), 5);
    }
}
