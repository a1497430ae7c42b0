import java.util.Arrays;
import java.util.List;
import java.util.Random;
import java.util.Set;

/** Promises 14 and 15: conserved and weight. */
public final class WeightsTest {
    private static final List<Integer> KEEPS_THE_SUM = Arrays.asList(170, 184, 204, 226, 240);

    public static void main(String[] args) {
        elementary();
        byHand();
        oneWide();
        byChance();
        wideOnes();
        heapsOfAllNames();
        Check.end();
    }

    private static void elementary() {
        for (int number = 0; number < 256; number++) {
            LineRules x = Check.with(Model.ofNumber(number).text());
            boolean keeps = KEEPS_THE_SUM.contains(number);
            Check.due("conserved " + number, x.conserved(), keeps ? 1 : 0);
            Check.due("weight(0, 1) " + number, x.weight(0, 1), keeps ? 1 : 0);
            Check.due("weight(0, 0) " + number, x.weight(0, 0), 0);
        }
    }

    private static void basis(String text, int[]... due) {
        LineRules x = Check.with(text);
        Check.due("conserved " + text, x.conserved(), due.length);
        for (int k = 0; k < due.length; k++) {
            for (int s = 0; s < due[k].length; s++) {
                Check.due("weight(" + k + ", " + s + ") " + text, x.weight(k, s), due[k][s]);
            }
        }
        for (int wrong : new int[] {-1, due.length, Integer.MIN_VALUE, Integer.MAX_VALUE}) {
            Check.due("weight(" + wrong + ", 1) " + text, x.weight(wrong, 1), 0);
        }
        for (int wrong : new int[] {-1, text.charAt(0) - '0', Integer.MIN_VALUE, Integer.MAX_VALUE}) {
            Check.due("weight(0, " + wrong + ") " + text, x.weight(0, wrong), 0);
        }
    }

    private static void byHand() {
        basis("21Ea", new int[] {0, 1});
        basis("44Eb", new int[] {0, 1, 0, 0}, new int[] {0, 0, 1, 0}, new int[] {0, 0, 0, 1});
        basis("41T0213", new int[] {0, 1, 1, 0}, new int[] {0, 0, 0, 1});
        basis("41T0231", new int[] {0, 1, 1, 1});
        basis("41T0032", new int[] {0, 0, 1, 1});
        basis("41T0132", new int[] {0, 1, 0, 0}, new int[] {0, 0, 1, 1});
        basis("31T100");
        basis("41T0000");
        // Two halves that go different ways: each half is kept, and so the sum of both.
        basis("42T0101010123232323", new int[] {0, 1, 0, 1}, new int[] {0, 0, 1, 1});
        LineRules x = Check.with("41Ea");
        Check.due("all are kept", x.conserved(), 3);
        Check.due("a new rule", Check.read(x, "41T0213"), 4);
        Check.due("is asked anew", x.conserved(), 2);
        Check.due("is asked anew", x.weight(2, 3), 0);
    }

    private static void oneWide() {
        for (int n = 0; n < 256; n++) {
            compare(new Model(4, 1, new Model(4, 1, null).unpack(n, 4)), 1);
        }
    }

    private static long divisor(long a, long b) {
        return b == 0 ? Math.abs(a) : divisor(b, a % b);
    }

    /** A heap of 2 or 3 gives one on to the left, and the states have all names that they can. */
    private static void heapsOfAllNames() {
        Model heaps = Texts.modelOf(Check.with("42Ea-(1<a)+(1<b)"), 4, 2);
        int[][] names = {{0, 1, 2, 3}, {0, 1, 3, 2}, {0, 2, 1, 3}, {0, 2, 3, 1}, {0, 3, 1, 2}, {0, 3, 2, 1}};
        for (int[] name : names) {
            int[] weight = new int[4];
            for (int s = 0; s < 4; s++) {
                weight[name[s]] = s;
            }
            basis(renamed(heaps, name).text(), weight);
        }
    }

    /** The rule that is the same but for the names of the states. */
    private static Model renamed(Model model, int... name) {
        int[] table = new int[model.table.length];
        for (int n = 0; n < table.length; n++) {
            int[] cells = model.unpack(n, model.width);
            for (int i = 0; i < cells.length; i++) {
                cells[i] = name[cells[i]];
            }
            table[model.pack(cells)] = name[model.table[n]];
        }
        return new Model(model.states, model.width, table);
    }

    private static void compare(Model model, int mostCells) {
        compare(Check.with(model.text()), model, mostCells);
    }

    /** Rings of as many cells as there are nodes hold each walk that comes back but once. */
    private static void compare(LineRules x, Model model, int mostCells) {
        Set<List<Integer>> gains = model.gains(mostCells);
        int count = x.conserved();
        String text = Arrays.toString(model.table);
        Check.due("conserved " + text, count, model.states - 1 - rank(gains, model.states));
        int[] leaders = new int[count];
        for (int k = 0; k < count; k++) {
            long common = 0;
            for (int s = model.states - 1; s >= 0; s--) {
                common = divisor(common, x.weight(k, s));
                leaders[k] = x.weight(k, s) != 0 ? s : leaders[k];
            }
            Check.due("the common divisor " + text, common, 1);
            Check.isTrue("above 0 at the leader " + text, x.weight(k, leaders[k]) > 0);
            Check.isTrue("leaders by number " + text, leaders[k] > (k == 0 ? 0 : leaders[k - 1]));
            for (List<Integer> gain : gains) {
                long sum = 0;
                for (int s = 0; s < model.states; s++) {
                    sum += (long) gain.get(s) * x.weight(k, s);
                }
                Check.due("what weight " + k + " gains " + text, sum, 0);
            }
        }
        for (int k = 0; k < count; k++) {
            for (int j = 0; j < count; j++) {
                Check.isTrue("0 at other leaders " + text, j == k || x.weight(k, leaders[j]) == 0);
            }
        }
    }

    /** How many of the gains, at all states but 0, are not made of the others. */
    private static int rank(Set<List<Integer>> gains, int states) {
        double[][] rows = new double[gains.size()][states];
        int filled = 0;
        for (List<Integer> gain : gains) {
            for (int s = 1; s < states; s++) {
                rows[filled][s] = gain.get(s);
            }
            filled++;
        }
        int rank = 0;
        for (int s = 1; s < states; s++) {
            for (int i = rank; i < rows.length; i++) {
                if (Math.abs(rows[i][s]) > 1e-9 && (Math.abs(rows[rank][s]) < Math.abs(rows[i][s]))) {
                    double[] spare = rows[i];
                    rows[i] = rows[rank];
                    rows[rank] = spare;
                }
            }
            if (rank == rows.length || Math.abs(rows[rank][s]) <= 1e-9) {
                continue;
            }
            for (int i = rank + 1; i < rows.length; i++) {
                double times = rows[i][s] / rows[rank][s];
                for (int t = s; t < states; t++) {
                    rows[i][t] -= times * rows[rank][t];
                }
            }
            rank++;
        }
        return rank;
    }

    private static void byChance() {
        Random dice = new Random(4);
        for (int round = 0; round < 400; round++) {
            int states = 2 + dice.nextInt(3);
            int width = states == 2 ? 1 + dice.nextInt(3) : 2;
            Model model = Model.random(dice, states, width);
            if (round % 2 == 0) {
                nearlyKeeping(dice, model);
            }
            compare(model, Model.power(states, width - 1));
        }
    }

    /** Each cell stays, but for some pairs of neighbours that change into one another. */
    private static void nearlyKeeping(Random dice, Model model) {
        int first = dice.nextInt(model.width);
        for (int n = 0; n < model.table.length; n++) {
            model.table[n] = model.unpack(n, model.width)[first];
        }
        for (int i = dice.nextInt(3); i > 0; i--) {
            int n = dice.nextInt(model.table.length);
            model.table[n] = dice.nextInt(model.states);
        }
    }

    /** Rules of cars that move when the cell ahead is free, with more kinds of cars and cells. */
    private static void wideOnes() {
        basis("33Eb=0?(a=2?2:0):b=1?1:c=0?0:2", new int[] {0, 1, 0}, new int[] {0, 0, 1});
        basis("43Eb=0&a<3?a:0<b&b<3&c=0?0:b", new int[] {0, 1, 0, 0}, new int[] {0, 0, 1, 0}, new int[] {0, 0, 0, 1});
        basis("34Ec=0?b:c=1?1:c=2&d=0?0:2", new int[] {0, 0, 1});
        // Heaps that give one on to the next heap if that has room; and the same with 1 and 2 changed.
        basis("33Eb+(0<a&b<2)-(0<b&c<2)", new int[] {0, 1, 2});
        basis("43Eb+(0<a&b<3)-(0<b&c<3)", new int[] {0, 1, 2, 3});
        Model heaps = Texts.modelOf(Check.with("33Eb+(0<a&b<2)-(0<b&c<2)"), 3, 3);
        basis(renamed(heaps, 0, 2, 1).text(), new int[] {0, 2, 1});
        // 1 moves and is lost together with a 2 that it meets.
        basis("32Ea=1?b=2?0:1:b=2?2:0", new int[] {0, 1, -1});
        Random dice = new Random(8);
        for (int round = 0; round < 60; round++) {
            int[][] shapes = {{3, 3}, {2, 4}};
            int[] shape = shapes[round % 2];
            String text = Texts.expression(dice, shape[0], shape[1]);
            LineRules x = Check.with(text);
            compare(x, Texts.modelOf(x, shape[0], shape[1]), Model.power(shape[0], shape[1] - 1));
        }
    }
}
