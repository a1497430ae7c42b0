import java.util.Arrays;
import java.util.List;
import java.util.Random;

/** Promises 18 to 20 for many rules and rings: before, beforeAt and ways. */
public final class PastTest {
    public static void main(String[] args) {
        byChance();
        wideOnes();
        greatRings();
        Check.end();
    }

    private static void compare(LineRules x, Model model, Random dice, int mostCells) {
        int[] ring = new int[1 + dice.nextInt(mostCells)];
        for (int i = 0; i < ring.length; i++) {
            ring[i] = dice.nextInt(model.states);
        }
        if (dice.nextInt(3) > 0) {
            ring = model.stepRing(ring);
        }
        Check.fill(x, ring);
        List<int[]> before = model.ringsBefore(ring);
        String what = Arrays.toString(model.table) + " of " + Arrays.toString(ring);
        Check.due("ways " + what, x.ways(), before.size());
        Check.due("before " + what, x.before(), before.isEmpty() ? 0 : 1);
        for (int i = 0; i < ring.length; i++) {
            Check.due("beforeAt(" + i + ") " + what, x.beforeAt(i), before.isEmpty() ? -1 : before.get(0)[i]);
            Check.due("the ring stays " + what, x.get(i), ring[i]);
        }
        Check.due("beforeAt behind " + what, x.beforeAt(ring.length), -1);
    }

    private static void byChance() {
        Random dice = new Random(12);
        for (int round = 0; round < 900; round++) {
            int states = 2 + dice.nextInt(3);
            int width = 1 + dice.nextInt(states == 2 ? 4 : states == 3 ? 3 : 2);
            Model model = Model.random(dice, states, width);
            LineRules x = Check.with(model.text());
            int most = round % 2 == 0 ? 3 : states == 2 ? 9 : states == 3 ? 6 : 5;
            compare(x, model, dice, most);
            compare(x, model, dice, most);
        }
    }

    private static void wideOnes() {
        Random dice = new Random(13);
        int[][] shapes = {{4, 3}, {3, 4}, {4, 4}};
        for (int round = 0; round < 200; round++) {
            int[] shape = shapes[round % shapes.length];
            LineRules x = Check.with(Texts.expression(dice, shape[0], shape[1]));
            compare(x, Texts.modelOf(x, shape[0], shape[1]), dice, 1 + round % 5);
        }
    }

    /** In great rings the least one can at least be stepped, and told to be there. */
    private static void greatRings() {
        Random dice = new Random(14);
        for (int round = 0; round < 60; round++) {
            int states = 2 + round % 3;
            int width = 2 + round % 2;
            Model model = Model.random(dice, states, states == 4 ? 2 : width);
            LineRules x = Check.with(model.text());
            int[] ring = new int[64];
            for (int i = 0; i < 64; i++) {
                ring[i] = dice.nextInt(states);
            }
            int[] made = model.stepRing(ring);
            Check.fill(x, made);
            Check.due("before " + model.text(), x.before(), 1);
            Check.due("ways " + model.text(), x.ways(), model.waysByMatrices(made));
            int[] least = new int[64];
            boolean less = false;
            boolean greater = false;
            for (int i = 0; i < 64; i++) {
                least[i] = x.beforeAt(i);
                less |= !greater && least[i] < ring[i];
                greater |= !less && least[i] > ring[i];
            }
            Check.isTrue("not greater than the one it was made of " + model.text(), !greater);
            int[] again = model.stepRing(least);
            for (int i = 0; i < 64; i++) {
                Check.due("the least makes the ring " + model.text(), again[i], made[i]);
            }
        }
    }
}
