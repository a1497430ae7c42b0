import java.util.Arrays;
import java.util.List;
import java.util.Random;
import java.util.Set;

/** Promises 14 and 15 for many rules: conserved and weight. */
public final class WeightsTest {
    private static final List<Integer> KEEPS_THE_SUM = Arrays.asList(170, 184, 204, 226, 240);

    public static void main(String[] args) {
        elementary();
        oneWide();
        byChance();
        wideOnes();
        Check.end();
    }

    private static void elementary() {
        for (int number = 0; number < 256; number++) {
            LineRules x = Check.with(Model.ofNumber(number).text());
            boolean keeps = KEEPS_THE_SUM.contains(number);
            Check.due("conserved " + number, x.conserved(), keeps ? 1 : 0);
            Check.due("weight(0, 1) " + number, x.weight(0, 1), keeps ? 1 : 0);
            Check.due("weight(0, 0) " + number, x.weight(0, 0), 0);
        }
    }

    private static void oneWide() {
        for (int n = 0; n < 256; n++) {
            compare(new Model(4, 1, new Model(4, 1, null).unpack(n, 4)), 1);
        }
    }

    private static long divisor(long a, long b) {
        return b == 0 ? Math.abs(a) : divisor(b, a % b);
    }

    private static void compare(Model model, int mostCells) {
        compare(Check.with(model.text()), model, mostCells);
    }

    /** Rings of as many cells as there are nodes hold each walk that comes back but once. */
    private static void compare(LineRules x, Model model, int mostCells) {
        Set<List<Integer>> gains = model.gains(mostCells);
        String text = Arrays.toString(model.table);
        int count = x.conserved();
        Check.due("conserved " + text, count, model.states - 1 - rank(gains, model.states));
        int[][] basis = new int[count][model.states];
        int[] leaders = new int[count];
        for (int k = 0; k < count; k++) {
            for (int s = model.states - 1; s >= 0; s--) {
                basis[k][s] = x.weight(k, s);
                leaders[k] = basis[k][s] != 0 ? s : leaders[k];
            }
            isKept(text, basis[k], gains);
            isWhole(text, basis[k], leaders[k]);
            Check.isTrue("leaders by number " + text, leaders[k] > (k == 0 ? 0 : leaders[k - 1]));
        }
        for (int k = 0; k < count; k++) {
            for (int j = 0; j < count; j++) {
                Check.isTrue("0 at other leaders " + text, j == k || basis[k][leaders[j]] == 0);
            }
        }
    }

    private static void isKept(String text, int[] weight, Set<List<Integer>> gains) {
        for (List<Integer> gain : gains) {
            long sum = 0;
            for (int s = 0; s < weight.length; s++) {
                sum += (long) gain.get(s) * weight[s];
            }
            Check.due("what a weight gains " + text, sum, 0);
        }
    }

    private static void isWhole(String text, int[] weight, int leader) {
        long common = 0;
        for (int number : weight) {
            common = divisor(common, number);
        }
        Check.due("0 at 0 " + text, weight[0], 0);
        Check.due("the common divisor " + text, common, 1);
        Check.isTrue("above 0 at the leader " + text, weight[leader] > 0);
    }

    /** How many of the gains, at all states but 0, are not made of the others. */
    private static int rank(Set<List<Integer>> gains, int states) {
        double[][] rows = new double[gains.size()][states];
        int filled = 0;
        for (List<Integer> gain : gains) {
            for (int s = 1; s < states; s++) {
                rows[filled][s] = gain.get(s);
            }
            filled++;
        }
        int rank = 0;
        for (int s = 1; s < states; s++) {
            for (int i = rank; i < rows.length; i++) {
                if (Math.abs(rows[i][s]) > 1e-9 && (Math.abs(rows[rank][s]) < Math.abs(rows[i][s]))) {
                    double[] spare = rows[i];
                    rows[i] = rows[rank];
                    rows[rank] = spare;
                }
            }
            if (rank == rows.length || Math.abs(rows[rank][s]) <= 1e-9) {
                continue;
            }
            for (int i = rank + 1; i < rows.length; i++) {
                double times = rows[i][s] / rows[rank][s];
                for (int t = s; t < states; t++) {
                    rows[i][t] -= times * rows[rank][t];
                }
            }
            rank++;
        }
        return rank;
    }

    private static void byChance() {
        Random dice = new Random(4);
        for (int round = 0; round < 400; round++) {
            int states = 2 + dice.nextInt(3);
            int width = states == 2 ? 1 + dice.nextInt(3) : 2;
            Model model = Model.random(dice, states, width);
            if (round % 2 == 0) {
                nearlyKeeping(dice, model);
            }
            compare(model, Model.power(states, width - 1));
        }
    }

    /** Each cell stays, but for some pairs of neighbours that change into one another. */
    private static void nearlyKeeping(Random dice, Model model) {
        int first = dice.nextInt(model.width);
        for (int n = 0; n < model.table.length; n++) {
            model.table[n] = model.unpack(n, model.width)[first];
        }
        for (int i = dice.nextInt(3); i > 0; i--) {
            int n = dice.nextInt(model.table.length);
            model.table[n] = dice.nextInt(model.states);
        }
    }

    /** Rules with more windows, by expressions. */
    private static void wideOnes() {
        Random dice = new Random(8);
        for (int round = 0; round < 60; round++) {
            int[][] shapes = {{3, 3}, {2, 4}};
            int[] shape = shapes[round % 2];
            String text = Texts.expression(dice, shape[0], shape[1]);
            LineRules x = Check.with(text);
            compare(x, Texts.modelOf(x, shape[0], shape[1]), Model.power(shape[0], shape[1] - 1));
        }
    }
}
