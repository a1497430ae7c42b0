import java.util.Arrays;
import java.util.List;
import java.util.Random;

/** Promises 18 to 20: before, beforeAt and ways. */
public final class PastTest {
    public static void main(String[] args) {
        byHand();
        wrapping();
        asksAnew();
        byChance();
        wideOnes();
        greatRings();
        Check.end();
    }

    private static void byHand() {
        LineRules x = Check.with("23Ea+c");
        Check.fill(x, 1, 0, 0, 0);
        Check.due("before", x.before(), 0);
        Check.due("beforeAt", x.beforeAt(0), -1);
        Check.due("ways", x.ways(), 0);
        Check.fill(x, 1, 0, 1, 0);
        Check.due("before", x.before(), 1);
        Check.due("ways", x.ways(), 4);
        int[] least = {0, 0, 0, 1};
        for (int i = 0; i < 4; i++) {
            Check.due("beforeAt(" + i + ")", x.beforeAt(i), least[i]);
        }
        for (int i : new int[] {-1, 4, 63, 64, Integer.MIN_VALUE, Integer.MAX_VALUE}) {
            Check.due("beforeAt(" + i + ")", x.beforeAt(i), -1);
        }
    }

    /** So many that a long wraps: there is a ring before it even where ways() is 0. */
    private static void wrapping() {
        LineRules x = Check.with("44E0");
        int[] cells = {1, 31, 32, 33, 64};
        long[] ways = {4, 1L << 62, 0, 0, 0};
        for (int i = 0; i < cells.length; i++) {
            x.ring(cells[i]);
            Check.due("ways of " + cells[i], x.ways(), ways[i]);
            Check.due("before of " + cells[i], x.before(), 1);
            Check.due("beforeAt of " + cells[i], x.beforeAt(cells[i] - 1), 0);
        }
        LineRules y = Check.with("23E0");
        y.ring(63);
        Check.due("ways of 63", y.ways(), Long.MIN_VALUE);
        y.ring(62);
        Check.due("ways of 62", y.ways(), 1L << 62);
        LineRules z = Check.with("31E0");
        z.ring(64);
        long power = 1;
        for (int i = 0; i < 64; i++) {
            power *= 3;
        }
        Check.due("3 to the 64th", z.ways(), power);
        Check.due("before", z.before(), 1);
    }

    /** What was found is not kept when the rule or the ring is another one. */
    private static void asksAnew() {
        LineRules x = Check.with("21T00");
        x.ring(3);
        expect("all 0", x, 8, 0);
        x.set(1, 1);
        expect("set", x, 0, -1);
        x.set(1, 0);
        expect("set back", x, 8, 0);
        x.set(1, 1);
        expect("set again", x, 0, -1);
        x.step(0);
        expect("no step", x, 0, -1);
        x.step(1);
        expect("a step", x, 8, 0);
        x.ring(4);
        expect("another ring", x, 16, 0);
        Check.due("a fault", Check.read(x, "2"), -11);
        expect("a fault", x, 16, 0);
        Check.due("a new rule", Check.read(x, "21T10"), 2);
        expect("a new rule", x, 1, 1);
        Check.due("a new rule", Check.read(x, "31E!a"), 3);
        expect("a new rule", x, 1, 2);
        x.set(0, 1);
        expect("set", x, 1, 1);
        Check.due("set with a wrong cell", x.set(4, 0), -1);
        expect("a wrong set", x, 1, 1);
    }

    private static void expect(String what, LineRules x, long ways, int first) {
        Check.due(what + ": ways", x.ways(), ways);
        Check.due(what + ": before", x.before(), first < 0 ? 0 : 1);
        Check.due(what + ": beforeAt(0)", x.beforeAt(0), first);
    }

    private static void compare(LineRules x, Model model, Random dice, int mostCells) {
        int[] ring = new int[1 + dice.nextInt(mostCells)];
        for (int i = 0; i < ring.length; i++) {
            ring[i] = dice.nextInt(model.states);
        }
        if (dice.nextInt(3) > 0) {
            ring = model.stepRing(ring);
        }
        Check.fill(x, ring);
        List<int[]> before = model.ringsBefore(ring);
        String what = Arrays.toString(model.table) + " of " + Arrays.toString(ring);
        Check.due("ways " + what, x.ways(), before.size());
        Check.due("before " + what, x.before(), before.isEmpty() ? 0 : 1);
        for (int i = 0; i < ring.length; i++) {
            Check.due("beforeAt(" + i + ") " + what, x.beforeAt(i), before.isEmpty() ? -1 : before.get(0)[i]);
            Check.due("the ring stays " + what, x.get(i), ring[i]);
        }
        Check.due("beforeAt behind " + what, x.beforeAt(ring.length), -1);
    }

    private static void byChance() {
        Random dice = new Random(12);
        for (int round = 0; round < 900; round++) {
            int states = 2 + dice.nextInt(3);
            int width = 1 + dice.nextInt(states == 2 ? 4 : states == 3 ? 3 : 2);
            Model model = Model.random(dice, states, width);
            LineRules x = Check.with(model.text());
            int most = round % 2 == 0 ? 3 : states == 2 ? 9 : states == 3 ? 6 : 5;
            compare(x, model, dice, most);
            compare(x, model, dice, most);
        }
    }

    private static void wideOnes() {
        Random dice = new Random(13);
        int[][] shapes = {{4, 3}, {3, 4}, {4, 4}};
        for (int round = 0; round < 200; round++) {
            int[] shape = shapes[round % shapes.length];
            LineRules x = Check.with(Texts.expression(dice, shape[0], shape[1]));
            compare(x, Texts.modelOf(x, shape[0], shape[1]), dice, 1 + round % 5);
        }
    }

    /** In great rings the least one can at least be stepped, and told to be there. */
    private static void greatRings() {
        Random dice = new Random(14);
        for (int round = 0; round < 60; round++) {
            int states = 2 + round % 3;
            int width = 2 + round % 2;
            Model model = Model.random(dice, states, states == 4 ? 2 : width);
            LineRules x = Check.with(model.text());
            int[] ring = new int[64];
            for (int i = 0; i < 64; i++) {
                ring[i] = dice.nextInt(states);
            }
            int[] made = model.stepRing(ring);
            Check.fill(x, made);
            Check.due("before " + model.text(), x.before(), 1);
            Check.due("ways " + model.text(), x.ways(), model.waysByMatrices(made));
            int[] least = new int[64];
            boolean less = false;
            boolean greater = false;
            for (int i = 0; i < 64; i++) {
                least[i] = x.beforeAt(i);
                less |= !greater && least[i] < ring[i];
                greater |= !less && least[i] > ring[i];
            }
            Check.isTrue("not greater than the one it was made of " + model.text(), !greater);
            int[] again = model.stepRing(least);
            for (int i = 0; i < 64; i++) {
                Check.due("the least makes the ring " + model.text(), again[i], made[i]);
            }
        }
    }
}
