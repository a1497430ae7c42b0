import java.util.List;

/** A test for each sentence about the rings before this one: of the terms, and promises 18 to 20. */
public final class PastSentencesTest {
    public static void main(String[] args) {
        hasTheSameCells();
        isLeastByItsFirstCell();
        ringMayBeShorterThanTheRule();
        beforeIsOneOrZero();
        beforeHoldsWhereWaysWraps();
        beforeAtTellsCells();
        beforeAtRefusesOtherCells();
        beforeAtIsNoneWhereThereIsNone();
        waysCounts();
        waysWraps();
        areThoseOfTheRingAsItIs();
        changeNothing();
        Check.end();
    }

    private static void expect(String what, LineRules x, long ways, int... least) {
        Check.due(what + ": ways()", x.ways(), ways);
        Check.due(what + ": before()", x.before(), least.length == 0 ? 0 : 1);
        for (int i = 0; i < least.length; i++) {
            Check.due(what + ": beforeAt(" + i + ")", x.beforeAt(i), least[i]);
        }
        Check.due(what + ": beforeAt(" + least.length + ")", x.beforeAt(least.length), -1);
    }

    private static void hasTheSameCells() {
        Check.sentence("A ring of the same R cells is BEFORE this one when one step makes this one of it");
        LineRules x = Check.with("23Ea+c");
        Check.fill(x, 1, 1, 1);
        // Four times three cells could be made, but of twelve cells that are not four times three.
        expect("three cells", x, 0);
        Check.fill(x, 1, 1, 1, 1, 1, 1, 1, 1, 1, 1, 1, 1);
        expect("twelve cells", x, 4, 0, 0, 1, 1, 0, 0, 1, 1, 0, 0, 1, 1);
        Check.fill(x, 1, 1, 1, 1);
        expect("four cells", x, 4, 0, 0, 1, 1);
        LineRules y = Check.with("42Eb");
        Check.fill(y, 1, 2, 3, 0);
        expect("one step and not two", y, 1, 0, 1, 2, 3);
        LineRules z = Check.with("21E!a");
        Check.fill(z, 1, 0);
        expect("not the ring itself", z, 1, 0, 1);
    }

    private static void isLeastByItsFirstCell() {
        Check.sentence("The LEAST of them is that whose first cell is least, of these whose second is, and so on");
        String[] texts = {"23Ea+c", "24Ea&b|d", "33Ea=c?b:2", "32S00112", "43Eb*c+a", "44Ea|b=d", "42T0123123023013012"};
        for (String text : texts) {
            int states = text.charAt(0) - '0';
            int width = text.charAt(1) - '0';
            Model model = Texts.modelOf(Check.with(text), states, width);
            for (int count = 1; count <= (states == 4 ? 4 : 5); count++) {
                for (int n = 0; n < Model.power(states, count); n++) {
                    leastOf(text, model, model.unpack(n, count));
                }
            }
        }
    }

    private static void leastOf(String text, Model model, int[] ring) {
        LineRules x = Check.with(text);
        Check.fill(x, ring);
        List<int[]> before = model.ringsBefore(ring);
        expect(text, x, before.size(), before.isEmpty() ? new int[0] : before.get(0));
    }

    private static void ringMayBeShorterThanTheRule() {
        Check.sentence("a ring may be shorter than W: the rings before it");
        LineRules x = Check.with("24Ea+b+c+d");
        expect("one cell, four times", x, 2, 0);
        x.set(0, 1);
        expect("never 1", x, 0);
        Check.fill(x, 0, 0);
        expect("two cells, twice each", x, 4, 0, 0);
        Check.fill(x, 0, 1, 1);
        expect("three cells, one of them twice", x, 2, 0, 0, 1);
        LineRules y = Check.with("44Ed");
        Check.fill(y, 1, 2);
        expect("two to the right is none", y, 1, 1, 2);
        Check.fill(y, 1, 2, 3);
        expect("two to the right is one to the left", y, 1, 2, 3, 1);
        Check.fill(y, 3);
        expect("one cell", y, 1, 3);
    }

    private static void beforeIsOneOrZero() {
        Check.sentence("Promise 18: 1 when there is a ring before this one, otherwise 0");
        LineRules x = Check.with("23Ea+c");
        Check.due("of all 0", x.before(), 1);
        Check.fill(x, 1, 0, 0, 0);
        Check.due("of a single 1", x.before(), 0);
        Check.fill(x, 1, 0, 1, 0);
        Check.due("of two", x.before(), 1);
        LineRules y = Check.with("21T11");
        Check.due("a 0 is never made", y.before(), 0);
        y.step(1);
        Check.due("a 1 is", y.before(), 1);
        y.ring(64);
        Check.due("64 of 0", y.before(), 0);
        y.step(1);
        Check.due("64 of 1", y.before(), 1);
        y.set(63, 0);
        Check.due("the last is 0", y.before(), 0);
        y.set(63, 1);
        y.set(0, 0);
        Check.due("the first is 0", y.before(), 0);
    }

    private static void beforeHoldsWhereWaysWraps() {
        Check.sentence("Promise 18: 1 when there is a ring before this one, also where a long of them is 0");
        LineRules x = Check.with("44E0");
        for (int count : new int[] {32, 33, 63, 64}) {
            x.ring(count);
            Check.due("ways() of " + count, x.ways(), 0);
            Check.due("before() of " + count, x.before(), 1);
            Check.due("beforeAt() of " + count, x.beforeAt(count - 1), 0);
        }
        LineRules y = Check.with("24E0");
        y.ring(64);
        Check.due("ways() of two states", y.ways(), 0);
        Check.due("before() of two states", y.before(), 1);
        Check.due("beforeAt(63) of two states", y.beforeAt(63), 0);
    }

    private static void beforeAtTellsCells() {
        Check.sentence("Promise 19: Cell i of the least ring before this one");
        for (int width = 1; width <= 4; width++) {
            for (int letter = 0; letter < width; letter++) {
                LineRules x = Check.with("4" + width + "E" + (char) ('a' + letter));
                int[] cells = new int[64];
                for (int i = 0; i < 64; i++) {
                    cells[i] = (i * i + i / 3) % 4;
                }
                Check.fill(x, cells);
                x.step(1);
                for (int i = 0; i < 64; i++) {
                    Check.due("beforeAt(" + i + ") of letter " + letter, x.beforeAt(i), cells[i]);
                }
            }
        }
    }

    private static void beforeAtRefusesOtherCells() {
        Check.sentence("Promise 19: NONE also when there is no such cell");
        for (int count : new int[] {1, 2, 3, 63, 64}) {
            LineRules x = Check.with("43E!b");
            x.ring(count);
            for (int i : new int[] {-1, count, count + 1, 64, 65, Check.LEAST, Check.MOST}) {
                Check.due("beforeAt(" + i + ") of " + count, x.beforeAt(i), -1);
            }
            Check.due("the first of " + count, x.beforeAt(0), 3);
            Check.due("the last of " + count, x.beforeAt(count - 1), 3);
        }
    }

    private static void beforeAtIsNoneWhereThereIsNone() {
        Check.sentence("Promise 19: NONE also when there is none");
        LineRules x = Check.with("23Ea+c");
        x.ring(4);
        Check.due("there is one", x.beforeAt(0), 0);
        x.set(2, 1);
        for (int i = -1; i <= 5; i++) {
            Check.due("beforeAt(" + i + ")", x.beforeAt(i), -1);
        }
        x.set(0, 1);
        Check.due("there is one again", x.beforeAt(3), 1);
    }

    private static void waysCounts() {
        Check.sentence("Promise 20: How many rings there are before this one");
        for (int states = 2; states <= 4; states++) {
            for (int width = 1; width <= 4; width++) {
                LineRules x = Check.with("" + states + width + "E1");
                for (int count = 1; count <= 5; count++) {
                    x.ring(count);
                    Check.due("none makes 0", x.ways(), 0);
                    x.step(1);
                    Check.due("all make 1", x.ways(), Model.power(states, count));
                }
                LineRules y = Check.with("" + states + width + "Ea");
                y.ring(64);
                Check.due("just one", y.ways(), 1);
            }
        }
        LineRules x = Check.with("21T00");
        x.ring(62);
        Check.due("62 cells", x.ways(), 1L << 62);
    }

    private static void waysWraps() {
        Check.sentence("Promise 20: as a long that wraps");
        for (int states = 2; states <= 4; states++) {
            for (int width = 1; width <= 4; width++) {
                LineRules x = Check.with("" + states + width + "E0");
                for (int count : new int[] {30, 31, 32, 33, 39, 40, 41, 62, 63, 64}) {
                    long due = 1;
                    for (int i = 0; i < count; i++) {
                        due *= states;
                    }
                    x.ring(count);
                    Check.due(states + " to the " + count, x.ways(), due);
                }
            }
        }
        LineRules y = Check.with("21E0");
        y.ring(63);
        Check.due("two to the 63rd", y.ways(), Long.MIN_VALUE);
        LineRules z = Check.with("31T001");
        z.ring(64);
        Check.due("two to the 64th", z.ways(), 0);
        z.set(7, 1);
        Check.due("two to the 63rd", z.ways(), Long.MIN_VALUE);
        z.set(63, 1);
        Check.due("two to the 62nd", z.ways(), 1L << 62);
    }

    private static void areThoseOfTheRingAsItIs() {
        Check.sentence("before this one: behind each call that changes the ring or the rule");
        LineRules x = Check.with("21T00");
        x.ring(3);
        expect("all 0", x, 8, 0, 0, 0);
        x.set(1, 1);
        expect("set", x, 0);
        x.set(1, 0);
        expect("set back", x, 8, 0, 0, 0);
        x.set(1, 1);
        x.step(0);
        expect("no step", x, 0);
        x.step(1);
        expect("a step", x, 8, 0, 0, 0);
        x.ring(4);
        expect("another ring", x, 16, 0, 0, 0, 0);
        Check.due("a fault", Check.read(x, "2"), -11);
        expect("a fault", x, 16, 0, 0, 0, 0);
        Check.due("a new rule", Check.read(x, "21T10"), 2);
        expect("a new rule", x, 1, 1, 1, 1, 1);
        Check.due("a new rule", Check.read(x, "31E!a"), 3);
        expect("a new rule", x, 1, 2, 2, 2, 2);
        x.set(0, 1);
        expect("set", x, 1, 1, 2, 2, 2);
        x.set(4, 0);
        x.set(0, 3);
        x.ring(0);
        x.step(201);
        expect("refused calls", x, 1, 1, 2, 2, 2);
    }

    private static void changeNothing() {
        Check.sentence("before(), beforeAt() and ways() tell, and change nothing");
        LineRules x = Check.with("24Ea+b*d");
        int[] cells = {1, 0, 0, 1, 1, 1, 0, 1};
        Check.fill(x, cells);
        x.before();
        x.beforeAt(2);
        x.ways();
        Check.cells("the ring", x, cells);
        Check.due("the ring", x.ring(1), 8);
    }
}
